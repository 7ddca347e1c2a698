def eX12_addVariable : List (Nat × Instr × Nat) := [(0, .aload_n 0, 1), (1, .getfield 128, 3), (4, .aload_n 0, 1), (5, .getfield 467, 3), (8, .iload_n 1, 1), (9, .iastore, 1), (10, .aload_n 0, 1), (11, .getfield 131, 3), (14, .aload_n 0, 1), (15, .getfield 467, 3), (18, .iload_n 2, 1), (19, .iastore, 1), (20, .aload_n 0, 1), (21, .getfield 134, 3), (24, .aload_n 0, 1), (25, .getfield 467, 3), (28, .iload_n 3, 1), (29, .bastore, 1), (30, .aload_n 0, 1), (31, .dup, 1), (32, .getfield 467, 3), (35, .iconst 1, 1), (36, .iadd, 1), (37, .putfield 467, 3), (40, .return_, 1)]
theorem dX12_addVariable : dChk (pCd 9069) eX12_addVariable = true := by decide +kernel
def fX12_addVariable (N : Nat) (v0 : Nat) (v1 : Int32) (v2 : Int32) (v3 : Int32) (h : pH) : Option (pH) := if isO h v0 12 = true then (
  (getR h v0 12 63).bind fun t1 =>
  (getI h v0 12 62).bind fun t2 =>
  (stI h t1 t2 v1).bind fun h3 =>
  (getR h3 v0 12 64).bind fun t4 =>
  (getI h3 v0 12 62).bind fun t5 =>
  (stI h3 t4 t5 v2).bind fun h6 =>
  (getR h6 v0 12 65).bind fun t7 =>
  (getI h6 v0 12 62).bind fun t8 =>
  (stZ h6 t7 t8 v3).bind fun h9 =>
  (getI h9 v0 12 62).bind fun t10 =>
  (putI h9 v0 12 62 (t10 + (1 : Int32))).bind fun h11 =>
  some h11) else none
theorem oX12_addVariable {N : Nat} {v0 : Nat} {v1 : Int32} {v2 : Int32} {v3 : Int32} {h : pH} {q : pH} (hf : fX12_addVariable N v0 v1 v2 v3 h = some q) : isO h v0 12 = true := by
  unfold fX12_addVariable at hf
  by_cases hc : isO h v0 12 = true
  · exact hc
  · rw [if_neg hc] at hf; cases hf
theorem cX12_addVariable (X : pX) (N d : Nat) (v0 : Nat) (v1 : Int32) (v2 : Int32) (v3 : Int32) (h : pH) (q : pH) (hf : fX12_addVariable N v0 v1 v2 v3 h = some q) : Calls X (d + 0) 281 [.ref v0, .int v1, .int v2, .int v3] h (none, q, 0, 0) := by
  refine Calls.of M281 (Nat.le_of_ble_eq_true rfl) ?_
  show Run X (d + 0) 12 false (pCd 9069) 4 none 0 [(0, .ref v0), (1, .int v1), (2, .int v2), (3, .int v3)] [] h 0 0 (none, q, 0, 0)
  unfold fX12_addVariable at hf
  by_cases hc : isO h v0 12 = true
  · rw [if_pos hc] at hf
    have nv0 : ¬ v0 = 4 := isO_ne hc
    refine r_aload_n (dGet dX12_addVariable (j := 0) rfl) nv0 rfl ?_
    obtain ⟨t1, et1, hf⟩ := Option.bind_eq_some_iff.mp hf
    refine r_getR (dGet dX12_addVariable (j := 1) rfl) F12_128 et1 ?_
    refine r_aload_n (dGet dX12_addVariable (j := 2) rfl) nv0 rfl ?_
    obtain ⟨t2, et2, hf⟩ := Option.bind_eq_some_iff.mp hf
    refine r_getI (dGet dX12_addVariable (j := 3) rfl) F12_467 et2 ?_
    refine r_iload_n (dGet dX12_addVariable (j := 4) rfl) rfl ?_
    obtain ⟨h3, eh3, hf⟩ := Option.bind_eq_some_iff.mp hf
    refine r_iast (dGet dX12_addVariable (j := 5) rfl) eh3 ?_
    refine r_aload_n (dGet dX12_addVariable (j := 6) rfl) nv0 rfl ?_
    obtain ⟨t4, et4, hf⟩ := Option.bind_eq_some_iff.mp hf
    refine r_getR (dGet dX12_addVariable (j := 7) rfl) F12_131 et4 ?_
    refine r_aload_n (dGet dX12_addVariable (j := 8) rfl) nv0 rfl ?_
    obtain ⟨t5, et5, hf⟩ := Option.bind_eq_some_iff.mp hf
    refine r_getI (dGet dX12_addVariable (j := 9) rfl) F12_467 et5 ?_
    refine r_iload_n (dGet dX12_addVariable (j := 10) rfl) rfl ?_
    obtain ⟨h6, eh6, hf⟩ := Option.bind_eq_some_iff.mp hf
    refine r_iast (dGet dX12_addVariable (j := 11) rfl) eh6 ?_
    refine r_aload_n (dGet dX12_addVariable (j := 12) rfl) nv0 rfl ?_
    obtain ⟨t7, et7, hf⟩ := Option.bind_eq_some_iff.mp hf
    refine r_getR (dGet dX12_addVariable (j := 13) rfl) F12_134 et7 ?_
    refine r_aload_n (dGet dX12_addVariable (j := 14) rfl) nv0 rfl ?_
    obtain ⟨t8, et8, hf⟩ := Option.bind_eq_some_iff.mp hf
    refine r_getI (dGet dX12_addVariable (j := 15) rfl) F12_467 et8 ?_
    refine r_iload_n (dGet dX12_addVariable (j := 16) rfl) rfl ?_
    obtain ⟨h9, eh9, hf⟩ := Option.bind_eq_some_iff.mp hf
    refine r_zast (dGet dX12_addVariable (j := 17) rfl) eh9 ?_
    refine r_aload_n (dGet dX12_addVariable (j := 18) rfl) nv0 rfl ?_
    refine r_dup (dGet dX12_addVariable (j := 19) rfl) rfl ?_
    obtain ⟨t10, et10, hf⟩ := Option.bind_eq_some_iff.mp hf
    refine r_getI (dGet dX12_addVariable (j := 20) rfl) F12_467 et10 ?_
    refine r_iconst (dGet dX12_addVariable (j := 21) rfl) kI_1 ?_
    refine r_iadd (dGet dX12_addVariable (j := 22) rfl) ?_
    obtain ⟨h11, eh11, hf⟩ := Option.bind_eq_some_iff.mp hf
    refine r_putI (dGet dX12_addVariable (j := 23) rfl) F12_467 rfl rfl eh11 ?_
    have hq := Option.some.inj hf
    subst hq
    exact r_vret (dGet dX12_addVariable (j := 24) rfl) rfl
  · rw [if_neg hc] at hf; cases hf
def eX12_backSets : List (Nat × Instr × Nat) := [(0, .iconst 0, 1), (1, .istore_n 2, 1), (2, .iload_n 2, 1), (3, .aload_n 0, 1), (4, .getfield 467, 3), (7, .if_icmp .ge 27, 3), (10, .aload_n 0, 1), (11, .getfield 134, 3), (14, .iload_n 2, 1), (15, .aload_n 0, 1), (16, .getfield 138, 3), (19, .sipush 1000, 3), (22, .iload_n 1, 1), (23, .imul, 1), (24, .iload_n 2, 1), (25, .iadd, 1), (26, .baload, 1), (27, .bastore, 1), (28, .iinc 2 1, 3), (31, .goto (-29), 3), (34, .return_, 1)]
theorem dX12_backSets : dChk (pCd 9144) eX12_backSets = true := by decide +kernel
def fX12_backSets_2 (N : Nat) : Nat → Nat → Int32 → Int32 → pH → Option (pH)
  | 0, _, _, _, _ => none
  | n + 1, v0, v1, v2, h => (getI h v0 12 62).bind fun t1 =>
  if t1 ≤ v2 then (
  some h) else (
  (getR h v0 12 65).bind fun t3 =>
  (getR h v0 12 67).bind fun t4 =>
  (ldZ h t4 (((1000 : Int32) * v1) + v2)).bind fun t5 =>
  (stZ h t3 v2 t5).bind fun h6 =>
  fX12_backSets_2 N n v0 v1 (v2 + (1 : Int32)) h6)
theorem lX12_backSets_2 (X : pX) (N d : Nat)  : ∀ (n : Nat) (v0 : Nat) (v1 : Int32) (v2 : Int32) (h : pH) (q : pH), fX12_backSets_2 N n v0 v1 v2 h = some q → ¬ v0 = 4 → Run X (d + 0) 12 false (pCd 9144) 3 none 2 [(0, .ref v0), (1, .int v1), (2, .int v2)] [] h 0 0 (none, q, 0, 0) := by
  intro n
  induction n with
  | zero => intro v0 v1 v2 h q hf; cases hf
  | succ n ih =>
    intro v0 v1 v2 h q hf nv0
    unfold fX12_backSets_2 at hf
    refine r_iload_n (dGet dX12_backSets (j := 2) rfl) rfl ?_
    refine r_aload_n (dGet dX12_backSets (j := 3) rfl) nv0 rfl ?_
    obtain ⟨t1, et1, hf⟩ := Option.bind_eq_some_iff.mp hf
    refine r_getI (dGet dX12_backSets (j := 4) rfl) F12_467 et1 ?_
    by_cases c2 : t1 ≤ v2
    · rw [if_pos c2] at hf
      refine r_icmp_ge_t (dGet dX12_backSets (j := 5) rfl) rfl c2 ?_
      have hq := Option.some.inj hf
      subst hq
      exact r_vret (dGet dX12_backSets (j := 20) rfl) rfl
    · rw [if_neg c2] at hf
      refine r_icmp_ge_f (dGet dX12_backSets (j := 5) rfl) rfl c2 ?_
      refine r_aload_n (dGet dX12_backSets (j := 6) rfl) nv0 rfl ?_
      obtain ⟨t3, et3, hf⟩ := Option.bind_eq_some_iff.mp hf
      refine r_getR (dGet dX12_backSets (j := 7) rfl) F12_134 et3 ?_
      refine r_iload_n (dGet dX12_backSets (j := 8) rfl) rfl ?_
      refine r_aload_n (dGet dX12_backSets (j := 9) rfl) nv0 rfl ?_
      obtain ⟨t4, et4, hf⟩ := Option.bind_eq_some_iff.mp hf
      refine r_getR (dGet dX12_backSets (j := 10) rfl) F12_138 et4 ?_
      refine r_sipush (dGet dX12_backSets (j := 11) rfl) kS_1000 ?_
      refine r_iload_n (dGet dX12_backSets (j := 12) rfl) rfl ?_
      refine r_imul (dGet dX12_backSets (j := 13) rfl) ?_
      refine r_iload_n (dGet dX12_backSets (j := 14) rfl) rfl ?_
      refine r_iadd (dGet dX12_backSets (j := 15) rfl) ?_
      obtain ⟨t5, et5, hf⟩ := Option.bind_eq_some_iff.mp hf
      refine r_zald (dGet dX12_backSets (j := 16) rfl) et5 ?_
      obtain ⟨h6, eh6, hf⟩ := Option.bind_eq_some_iff.mp hf
      refine r_zast (dGet dX12_backSets (j := 17) rfl) eh6 ?_
      refine r_iinc (lv' := [(2, .int (v2 + (1 : Int32))), (0, .ref v0), (1, .int v1)]) (dGet dX12_backSets (j := 18) rfl) rfl (by decide) kI_1 rfl ?_
      refine r_goto (dGet dX12_backSets (j := 19) rfl) rfl ?_
      refine Run.weak [(0, .ref v0), (1, .int v1), (2, .int (v2 + (1 : Int32)))] (by simp) (by simp [pNd]) ?_
      exact ih v0 v1 (v2 + (1 : Int32)) h6 q hf nv0
def fX12_backSets (N : Nat) (v0 : Nat) (v1 : Int32) (h : pH) : Option (pH) := if isO h v0 12 = true then (
  fX12_backSets_2 N N v0 v1 (0 : Int32) h) else none
theorem oX12_backSets {N : Nat} {v0 : Nat} {v1 : Int32} {h : pH} {q : pH} (hf : fX12_backSets N v0 v1 h = some q) : isO h v0 12 = true := by
  unfold fX12_backSets at hf
  by_cases hc : isO h v0 12 = true
  · exact hc
  · rw [if_neg hc] at hf; cases hf
theorem cX12_backSets (X : pX) (N d : Nat) (v0 : Nat) (v1 : Int32) (h : pH) (q : pH) (hf : fX12_backSets N v0 v1 h = some q) : Calls X (d + 0) 300 [.ref v0, .int v1] h (none, q, 0, 0) := by
  refine Calls.of M300 (Nat.le_of_ble_eq_true rfl) ?_
  show Run X (d + 0) 12 false (pCd 9144) 3 none 0 [(0, .ref v0), (1, .int v1)] [] h 0 0 (none, q, 0, 0)
  unfold fX12_backSets at hf
  by_cases hc : isO h v0 12 = true
  · rw [if_pos hc] at hf
    have nv0 : ¬ v0 = 4 := isO_ne hc
    refine r_iconst (dGet dX12_backSets (j := 0) rfl) kI_0 ?_
    refine r_istore_n (lv' := [(2, .int (0 : Int32)), (0, .ref v0), (1, .int v1)]) (dGet dX12_backSets (j := 1) rfl) (by decide) rfl ?_
    refine Run.weak [(0, .ref v0), (1, .int v1), (2, .int (0 : Int32))] (by simp) (by simp [pNd]) ?_
    exact lX12_backSets_2 X N d N v0 v1 (0 : Int32) h q hf nv0
  · rw [if_neg hc] at hf; cases hf
def eX12_setLocal : List (Nat × Instr × Nat) := [(0, .aload_n 0, 1), (1, .getfield 191, 3), (4, .aload_n 0, 1), (5, .getfield 181, 3), (8, .iload_n 1, 1), (9, .iaload, 1), (10, .iload_n 2, 1), (11, .iadd, 1), (12, .iload_n 3, 1), (13, .iastore, 1), (14, .aload_n 0, 1), (15, .getfield 194, 3), (18, .aload_n 0, 1), (19, .getfield 181, 3), (22, .iload_n 1, 1), (23, .iaload, 1), (24, .iload_n 2, 1), (25, .iadd, 1), (26, .iload 4, 2), (28, .bastore, 1), (29, .return_, 1)]
theorem dX12_setLocal : dChk (pCd 9191) eX12_setLocal = true := by decide +kernel
def fX12_setLocal (N : Nat) (v0 : Nat) (v1 : Int32) (v2 : Int32) (v3 : Int32) (v4 : Int32) (h : pH) : Option (pH) := if isO h v0 12 = true then (
  (getR h v0 12 98).bind fun t1 =>
  (getR h v0 12 95).bind fun t2 =>
  (ldI h t2 v1).bind fun t3 =>
  (stI h t1 (t3 + v2) v3).bind fun h4 =>
  (getR h4 v0 12 99).bind fun t5 =>
  (getR h4 v0 12 95).bind fun t6 =>
  (ldI h4 t6 v1).bind fun t7 =>
  (stZ h4 t5 (t7 + v2) v4).bind fun h8 =>
  some h8) else none
theorem oX12_setLocal {N : Nat} {v0 : Nat} {v1 : Int32} {v2 : Int32} {v3 : Int32} {v4 : Int32} {h : pH} {q : pH} (hf : fX12_setLocal N v0 v1 v2 v3 v4 h = some q) : isO h v0 12 = true := by
  unfold fX12_setLocal at hf
  by_cases hc : isO h v0 12 = true
  · exact hc
  · rw [if_neg hc] at hf; cases hf
theorem cX12_setLocal (X : pX) (N d : Nat) (v0 : Nat) (v1 : Int32) (v2 : Int32) (v3 : Int32) (v4 : Int32) (h : pH) (q : pH) (hf : fX12_setLocal N v0 v1 v2 v3 v4 h = some q) : Calls X (d + 0) 311 [.ref v0, .int v1, .int v2, .int v3, .int v4] h (none, q, 0, 0) := by
  refine Calls.of M311 (Nat.le_of_ble_eq_true rfl) ?_
  show Run X (d + 0) 12 false (pCd 9191) 5 none 0 [(0, .ref v0), (1, .int v1), (2, .int v2), (3, .int v3), (4, .int v4)] [] h 0 0 (none, q, 0, 0)
  unfold fX12_setLocal at hf
  by_cases hc : isO h v0 12 = true
  · rw [if_pos hc] at hf
    have nv0 : ¬ v0 = 4 := isO_ne hc
    refine r_aload_n (dGet dX12_setLocal (j := 0) rfl) nv0 rfl ?_
    obtain ⟨t1, et1, hf⟩ := Option.bind_eq_some_iff.mp hf
    refine r_getR (dGet dX12_setLocal (j := 1) rfl) F12_191 et1 ?_
    refine r_aload_n (dGet dX12_setLocal (j := 2) rfl) nv0 rfl ?_
    obtain ⟨t2, et2, hf⟩ := Option.bind_eq_some_iff.mp hf
    refine r_getR (dGet dX12_setLocal (j := 3) rfl) F12_181 et2 ?_
    refine r_iload_n (dGet dX12_setLocal (j := 4) rfl) rfl ?_
    obtain ⟨t3, et3, hf⟩ := Option.bind_eq_some_iff.mp hf
    refine r_iald (dGet dX12_setLocal (j := 5) rfl) et3 ?_
    refine r_iload_n (dGet dX12_setLocal (j := 6) rfl) rfl ?_
    refine r_iadd (dGet dX12_setLocal (j := 7) rfl) ?_
    refine r_iload_n (dGet dX12_setLocal (j := 8) rfl) rfl ?_
    obtain ⟨h4, eh4, hf⟩ := Option.bind_eq_some_iff.mp hf
    refine r_iast (dGet dX12_setLocal (j := 9) rfl) eh4 ?_
    refine r_aload_n (dGet dX12_setLocal (j := 10) rfl) nv0 rfl ?_
    obtain ⟨t5, et5, hf⟩ := Option.bind_eq_some_iff.mp hf
    refine r_getR (dGet dX12_setLocal (j := 11) rfl) F12_194 et5 ?_
    refine r_aload_n (dGet dX12_setLocal (j := 12) rfl) nv0 rfl ?_
    obtain ⟨t6, et6, hf⟩ := Option.bind_eq_some_iff.mp hf
    refine r_getR (dGet dX12_setLocal (j := 13) rfl) F12_181 et6 ?_
    refine r_iload_n (dGet dX12_setLocal (j := 14) rfl) rfl ?_
    obtain ⟨t7, et7, hf⟩ := Option.bind_eq_some_iff.mp hf
    refine r_iald (dGet dX12_setLocal (j := 15) rfl) et7 ?_
    refine r_iload_n (dGet dX12_setLocal (j := 16) rfl) rfl ?_
    refine r_iadd (dGet dX12_setLocal (j := 17) rfl) ?_
    refine r_iload (dGet dX12_setLocal (j := 18) rfl) rfl ?_
    obtain ⟨h8, eh8, hf⟩ := Option.bind_eq_some_iff.mp hf
    refine r_zast (dGet dX12_setLocal (j := 19) rfl) eh8 ?_
    have hq := Option.some.inj hf
    subst hq
    exact r_vret (dGet dX12_setLocal (j := 20) rfl) rfl
  · rw [if_neg hc] at hf; cases hf
def eX12_todo : List (Nat × Instr × Nat) := [(0, .aload_n 0, 1), (1, .getfield 205, 3), (4, .aload_n 0, 1), (5, .getfield 584, 3), (8, .iload_n 1, 1), (9, .iastore, 1), (10, .aload_n 0, 1), (11, .getfield 208, 3), (14, .aload_n 0, 1), (15, .getfield 584, 3), (18, .iload_n 2, 1), (19, .iastore, 1), (20, .aload_n 0, 1), (21, .dup, 1), (22, .getfield 584, 3), (25, .iconst 1, 1), (26, .iadd, 1), (27, .putfield 584, 3), (30, .return_, 1)]
theorem dX12_todo : dChk (pCd 9195) eX12_todo = true := by decide +kernel
def fX12_todo (N : Nat) (v0 : Nat) (v1 : Int32) (v2 : Int32) (h : pH) : Option (pH) := if isO h v0 12 = true then (
  (getR h v0 12 104).bind fun t1 =>
  (getI h v0 12 103).bind fun t2 =>
  (stI h t1 t2 v1).bind fun h3 =>
  (getR h3 v0 12 105).bind fun t4 =>
  (getI h3 v0 12 103).bind fun t5 =>
  (stI h3 t4 t5 v2).bind fun h6 =>
  (getI h6 v0 12 103).bind fun t7 =>
  (putI h6 v0 12 103 (t7 + (1 : Int32))).bind fun h8 =>
  some h8) else none
theorem oX12_todo {N : Nat} {v0 : Nat} {v1 : Int32} {v2 : Int32} {h : pH} {q : pH} (hf : fX12_todo N v0 v1 v2 h = some q) : isO h v0 12 = true := by
  unfold fX12_todo at hf
  by_cases hc : isO h v0 12 = true
  · exact hc
  · rw [if_neg hc] at hf; cases hf
theorem cX12_todo (X : pX) (N d : Nat) (v0 : Nat) (v1 : Int32) (v2 : Int32) (h : pH) (q : pH) (hf : fX12_todo N v0 v1 v2 h = some q) : Calls X (d + 0) 312 [.ref v0, .int v1, .int v2] h (none, q, 0, 0) := by
  refine Calls.of M312 (Nat.le_of_ble_eq_true rfl) ?_
  show Run X (d + 0) 12 false (pCd 9195) 3 none 0 [(0, .ref v0), (1, .int v1), (2, .int v2)] [] h 0 0 (none, q, 0, 0)
  unfold fX12_todo at hf
  by_cases hc : isO h v0 12 = true
  · rw [if_pos hc] at hf
    have nv0 : ¬ v0 = 4 := isO_ne hc
    refine r_aload_n (dGet dX12_todo (j := 0) rfl) nv0 rfl ?_
    obtain ⟨t1, et1, hf⟩ := Option.bind_eq_some_iff.mp hf
    refine r_getR (dGet dX12_todo (j := 1) rfl) F12_205 et1 ?_
    refine r_aload_n (dGet dX12_todo (j := 2) rfl) nv0 rfl ?_
    obtain ⟨t2, et2, hf⟩ := Option.bind_eq_some_iff.mp hf
    refine r_getI (dGet dX12_todo (j := 3) rfl) F12_584 et2 ?_
    refine r_iload_n (dGet dX12_todo (j := 4) rfl) rfl ?_
    obtain ⟨h3, eh3, hf⟩ := Option.bind_eq_some_iff.mp hf
    refine r_iast (dGet dX12_todo (j := 5) rfl) eh3 ?_
    refine r_aload_n (dGet dX12_todo (j := 6) rfl) nv0 rfl ?_
    obtain ⟨t4, et4, hf⟩ := Option.bind_eq_some_iff.mp hf
    refine r_getR (dGet dX12_todo (j := 7) rfl) F12_208 et4 ?_
    refine r_aload_n (dGet dX12_todo (j := 8) rfl) nv0 rfl ?_
    obtain ⟨t5, et5, hf⟩ := Option.bind_eq_some_iff.mp hf
    refine r_getI (dGet dX12_todo (j := 9) rfl) F12_584 et5 ?_
    refine r_iload_n (dGet dX12_todo (j := 10) rfl) rfl ?_
    obtain ⟨h6, eh6, hf⟩ := Option.bind_eq_some_iff.mp hf
    refine r_iast (dGet dX12_todo (j := 11) rfl) eh6 ?_
    refine r_aload_n (dGet dX12_todo (j := 12) rfl) nv0 rfl ?_
    refine r_dup (dGet dX12_todo (j := 13) rfl) rfl ?_
    obtain ⟨t7, et7, hf⟩ := Option.bind_eq_some_iff.mp hf
    refine r_getI (dGet dX12_todo (j := 14) rfl) F12_584 et7 ?_
    refine r_iconst (dGet dX12_todo (j := 15) rfl) kI_1 ?_
    refine r_iadd (dGet dX12_todo (j := 16) rfl) ?_
    obtain ⟨h8, eh8, hf⟩ := Option.bind_eq_some_iff.mp hf
    refine r_putI (dGet dX12_todo (j := 17) rfl) F12_584 rfl rfl eh8 ?_
    have hq := Option.some.inj hf
    subst hq
    exact r_vret (dGet dX12_todo (j := 18) rfl) rfl
  · rw [if_neg hc] at hf; cases hf
def eX12_begin : List (Nat × Instr × Nat) := [(0, .aload_n 0, 1), (1, .getfield 554, 3), (4, .istore 5, 2), (6, .aload_n 0, 1), (7, .getfield 181, 3), (10, .iload 5, 2), (12, .iload 5, 2), (14, .ifCond .ne 7, 3), (17, .iconst 0, 1), (18, .goto 22, 3), (21, .aload_n 0, 1), (22, .getfield 181, 3), (25, .iload 5, 2), (27, .iconst 1, 1), (28, .isub, 1), (29, .iaload, 1), (30, .aload_n 0, 1), (31, .getfield 184, 3), (34, .iload 5, 2), (36, .iconst 1, 1), (37, .isub, 1), (38, .iaload, 1), (39, .iadd, 1), (40, .iastore, 1), (41, .aload_n 0, 1), (42, .getfield 178, 3), (45, .iload 5, 2), (47, .iload_n 1, 1), (48, .iastore, 1), (49, .aload_n 0, 1), (50, .getfield 184, 3), (53, .iload 5, 2), (55, .iload 4, 2), (57, .iastore, 1), (58, .iconst 0, 1), (59, .istore 6, 2), (61, .iload 6, 2), (63, .iload 4, 2), (65, .if_icmp .ge 35, 3), (68, .aload_n 0, 1), (69, .iload 5, 2), (71, .iload 6, 2), (73, .aload_n 0, 1), (74, .getfield 198, 3), (77, .iload_n 3, 1), (78, .iload 6, 2), (80, .iadd, 1), (81, .iaload, 1), (82, .aload_n 0, 1), (83, .getfield 201, 3), (86, .iload_n 3, 1), (87, .iload 6, 2), (89, .iadd, 1), (90, .baload, 1), (91, .invokevirtual 598, 3), (94, .iinc 6 1, 3), (97, .goto (-36), 3), (100, .aload_n 0, 1), (101, .dup, 1), (102, .getfield 554, 3), (105, .iconst 1, 1), (106, .iadd, 1), (107, .putfield 554, 3), (110, .aload_n 0, 1), (111, .bipush 8, 2), (113, .iload_n 2, 1), (114, .invokevirtual 596, 3), (117, .aload_n 0, 1), (118, .iconst 3, 1), (119, .aload_n 0, 1), (120, .getfield 113, 3), (123, .iload_n 2, 1), (124, .iaload, 1), (125, .invokevirtual 596, 3), (128, .return_, 1)]
theorem dX12_begin : dChk (pCd 9187) eX12_begin = true := by decide +kernel
def fX12_begin_61 (N : Nat) : Nat → Nat → Int32 → Int32 → Int32 → Int32 → Int32 → pH → Option (pH)
  | 0, _, _, _, _, _, _, _ => none
  | n + 1, v0, v2, v3, v4, v5, v6, h => if v4 ≤ v6 then (
  (getI h v0 12 93).bind fun t2 =>
  (putI h v0 12 93 (t2 + (1 : Int32))).bind fun h3 =>
  (fX12_todo N v0 (8 : Int32) v2 h3).bind fun h4 =>
  (getR h4 v0 12 50).bind fun t5 =>
  (ldI h4 t5 v2).bind fun t6 =>
  (fX12_todo N v0 (3 : Int32) t6 h4).bind fun h7 =>
  some h7) else (
  (getR h v0 12 101).bind fun t8 =>
  (ldI h t8 (v3 + v6)).bind fun t9 =>
  (getR h v0 12 102).bind fun t10 =>
  (ldZ h t10 (v3 + v6)).bind fun t11 =>
  (fX12_setLocal N v0 v5 v6 t9 t11 h).bind fun h12 =>
  fX12_begin_61 N n v0 v2 v3 v4 v5 (v6 + (1 : Int32)) h12)
theorem lX12_begin_61 (X : pX) (N d : Nat)  : ∀ (n : Nat) (v0 : Nat) (v2 : Int32) (v3 : Int32) (v4 : Int32) (v5 : Int32) (v6 : Int32) (h : pH) (q : pH), fX12_begin_61 N n v0 v2 v3 v4 v5 v6 h = some q → ¬ v0 = 4 → Run X (d + 1) 12 false (pCd 9187) 7 none 61 [(0, .ref v0), (2, .int v2), (3, .int v3), (4, .int v4), (5, .int v5), (6, .int v6)] [] h 0 0 (none, q, 0, 0) := by
  intro n
  induction n with
  | zero => intro v0 v2 v3 v4 v5 v6 h q hf; cases hf
  | succ n ih =>
    intro v0 v2 v3 v4 v5 v6 h q hf nv0
    unfold fX12_begin_61 at hf
    refine r_iload (dGet dX12_begin (j := 36) rfl) rfl ?_
    refine r_iload (dGet dX12_begin (j := 37) rfl) rfl ?_
    by_cases c1 : v4 ≤ v6
    · rw [if_pos c1] at hf
      refine r_icmp_ge_t (dGet dX12_begin (j := 38) rfl) rfl c1 ?_
      refine r_aload_n (dGet dX12_begin (j := 57) rfl) nv0 rfl ?_
      refine r_dup (dGet dX12_begin (j := 58) rfl) rfl ?_
      obtain ⟨t2, et2, hf⟩ := Option.bind_eq_some_iff.mp hf
      refine r_getI (dGet dX12_begin (j := 59) rfl) F12_554 et2 ?_
      refine r_iconst (dGet dX12_begin (j := 60) rfl) kI_1 ?_
      refine r_iadd (dGet dX12_begin (j := 61) rfl) ?_
      obtain ⟨h3, eh3, hf⟩ := Option.bind_eq_some_iff.mp hf
      refine r_putI (dGet dX12_begin (j := 62) rfl) F12_554 rfl rfl eh3 ?_
      refine r_aload_n (dGet dX12_begin (j := 63) rfl) nv0 rfl ?_
      refine r_bipush (dGet dX12_begin (j := 64) rfl) kB_8 ?_
      refine r_iload_n (dGet dX12_begin (j := 65) rfl) rfl ?_
      obtain ⟨h4, eh4, hf⟩ := Option.bind_eq_some_iff.mp hf
      refine r_virtual (dGet dX12_begin (j := 66) rfl) L12_596 M312 rfl rfl (Nat.le_of_ble_eq_true rfl) (oX12_todo eh4) (cX12_todo X N (d + 0) v0 (8 : Int32) v2 h3 h4 eh4) ?_
      refine r_aload_n (dGet dX12_begin (j := 67) rfl) nv0 rfl ?_
      refine r_iconst (dGet dX12_begin (j := 68) rfl) kI_3 ?_
      refine r_aload_n (dGet dX12_begin (j := 69) rfl) nv0 rfl ?_
      obtain ⟨t5, et5, hf⟩ := Option.bind_eq_some_iff.mp hf
      refine r_getR (dGet dX12_begin (j := 70) rfl) F12_113 et5 ?_
      refine r_iload_n (dGet dX12_begin (j := 71) rfl) rfl ?_
      obtain ⟨t6, et6, hf⟩ := Option.bind_eq_some_iff.mp hf
      refine r_iald (dGet dX12_begin (j := 72) rfl) et6 ?_
      obtain ⟨h7, eh7, hf⟩ := Option.bind_eq_some_iff.mp hf
      refine r_virtual (dGet dX12_begin (j := 73) rfl) L12_596 M312 rfl rfl (Nat.le_of_ble_eq_true rfl) (oX12_todo eh7) (cX12_todo X N (d + 0) v0 (3 : Int32) t6 h4 h7 eh7) ?_
      have hq := Option.some.inj hf
      subst hq
      exact r_vret (dGet dX12_begin (j := 74) rfl) rfl
    · rw [if_neg c1] at hf
      refine r_icmp_ge_f (dGet dX12_begin (j := 38) rfl) rfl c1 ?_
      refine r_aload_n (dGet dX12_begin (j := 39) rfl) nv0 rfl ?_
      refine r_iload (dGet dX12_begin (j := 40) rfl) rfl ?_
      refine r_iload (dGet dX12_begin (j := 41) rfl) rfl ?_
      refine r_aload_n (dGet dX12_begin (j := 42) rfl) nv0 rfl ?_
      obtain ⟨t8, et8, hf⟩ := Option.bind_eq_some_iff.mp hf
      refine r_getR (dGet dX12_begin (j := 43) rfl) F12_198 et8 ?_
      refine r_iload_n (dGet dX12_begin (j := 44) rfl) rfl ?_
      refine r_iload (dGet dX12_begin (j := 45) rfl) rfl ?_
      refine r_iadd (dGet dX12_begin (j := 46) rfl) ?_
      obtain ⟨t9, et9, hf⟩ := Option.bind_eq_some_iff.mp hf
      refine r_iald (dGet dX12_begin (j := 47) rfl) et9 ?_
      refine r_aload_n (dGet dX12_begin (j := 48) rfl) nv0 rfl ?_
      obtain ⟨t10, et10, hf⟩ := Option.bind_eq_some_iff.mp hf
      refine r_getR (dGet dX12_begin (j := 49) rfl) F12_201 et10 ?_
      refine r_iload_n (dGet dX12_begin (j := 50) rfl) rfl ?_
      refine r_iload (dGet dX12_begin (j := 51) rfl) rfl ?_
      refine r_iadd (dGet dX12_begin (j := 52) rfl) ?_
      obtain ⟨t11, et11, hf⟩ := Option.bind_eq_some_iff.mp hf
      refine r_zald (dGet dX12_begin (j := 53) rfl) et11 ?_
      obtain ⟨h12, eh12, hf⟩ := Option.bind_eq_some_iff.mp hf
      refine r_virtual (dGet dX12_begin (j := 54) rfl) L12_598 M311 rfl rfl (Nat.le_of_ble_eq_true rfl) (oX12_setLocal eh12) (cX12_setLocal X N (d + 0) v0 v5 v6 t9 t11 h h12 eh12) ?_
      refine r_iinc (lv' := [(6, .int (v6 + (1 : Int32))), (0, .ref v0), (2, .int v2), (3, .int v3), (4, .int v4), (5, .int v5)]) (dGet dX12_begin (j := 55) rfl) rfl (by decide) kI_1 rfl ?_
      refine r_goto (dGet dX12_begin (j := 56) rfl) rfl ?_
      refine Run.weak [(0, .ref v0), (2, .int v2), (3, .int v3), (4, .int v4), (5, .int v5), (6, .int (v6 + (1 : Int32)))] (by simp) (by simp [pNd]) ?_
      exact ih v0 v2 v3 v4 v5 (v6 + (1 : Int32)) h12 q hf nv0
def fX12_begin_40 (N : Nat) (v0 : Nat) (v1 : Int32) (v2 : Int32) (v3 : Int32) (v4 : Int32) (v5 : Int32) (s0 : Nat) (s1 : Int32) (s2 : Int32) (h : pH) : Option (pH) :=
  (stI h s0 s1 s2).bind fun h13 =>
  (getR h13 v0 12 94).bind fun t14 =>
  (stI h13 t14 v5 v1).bind fun h15 =>
  (getR h15 v0 12 96).bind fun t16 =>
  (stI h15 t16 v5 v4).bind fun h17 =>
  fX12_begin_61 N N v0 v2 v3 v4 v5 (0 : Int32) h17
theorem lX12_begin_40 (X : pX) (N d : Nat)  (v0 : Nat) (v1 : Int32) (v2 : Int32) (v3 : Int32) (v4 : Int32) (v5 : Int32) (s0 : Nat) (s1 : Int32) (s2 : Int32) (h : pH) (q : pH) (hf : fX12_begin_40 N v0 v1 v2 v3 v4 v5 s0 s1 s2 h = some q) (nv0 : ¬ v0 = 4) (ns0 : ¬ s0 = 4) : Run X (d + 1) 12 false (pCd 9187) 7 none 40 [(0, .ref v0), (1, .int v1), (2, .int v2), (3, .int v3), (4, .int v4), (5, .int v5)] [.int s2, .int s1, .ref s0] h 0 0 (none, q, 0, 0) := by
  unfold fX12_begin_40 at hf
  obtain ⟨h13, eh13, hf⟩ := Option.bind_eq_some_iff.mp hf
  refine r_iast (dGet dX12_begin (j := 23) rfl) eh13 ?_
  refine r_aload_n (dGet dX12_begin (j := 24) rfl) nv0 rfl ?_
  obtain ⟨t14, et14, hf⟩ := Option.bind_eq_some_iff.mp hf
  refine r_getR (dGet dX12_begin (j := 25) rfl) F12_178 et14 ?_
  refine r_iload (dGet dX12_begin (j := 26) rfl) rfl ?_
  refine r_iload_n (dGet dX12_begin (j := 27) rfl) rfl ?_
  obtain ⟨h15, eh15, hf⟩ := Option.bind_eq_some_iff.mp hf
  refine r_iast (dGet dX12_begin (j := 28) rfl) eh15 ?_
  refine r_aload_n (dGet dX12_begin (j := 29) rfl) nv0 rfl ?_
  obtain ⟨t16, et16, hf⟩ := Option.bind_eq_some_iff.mp hf
  refine r_getR (dGet dX12_begin (j := 30) rfl) F12_184 et16 ?_
  refine r_iload (dGet dX12_begin (j := 31) rfl) rfl ?_
  refine r_iload (dGet dX12_begin (j := 32) rfl) rfl ?_
  obtain ⟨h17, eh17, hf⟩ := Option.bind_eq_some_iff.mp hf
  refine r_iast (dGet dX12_begin (j := 33) rfl) eh17 ?_
  refine r_iconst (dGet dX12_begin (j := 34) rfl) kI_0 ?_
  refine r_istore (lv' := [(6, .int (0 : Int32)), (0, .ref v0), (1, .int v1), (2, .int v2), (3, .int v3), (4, .int v4), (5, .int v5)]) (dGet dX12_begin (j := 35) rfl) (by decide) rfl ?_
  refine Run.weak [(0, .ref v0), (2, .int v2), (3, .int v3), (4, .int v4), (5, .int v5), (6, .int (0 : Int32))] (by simp) (by simp [pNd]) ?_
  exact lX12_begin_61 X N d N v0 v2 v3 v4 v5 (0 : Int32) h17 q hf nv0
def fX12_begin (N : Nat) (v0 : Nat) (v1 : Int32) (v2 : Int32) (v3 : Int32) (v4 : Int32) (h : pH) : Option (pH) := if isO h v0 12 = true then (
  (getI h v0 12 93).bind fun t18 =>
  (getR h v0 12 95).bind fun t19 =>
  if t18 = 0 then (
  if t19 = 4 then none else
  fX12_begin_40 N v0 v1 v2 v3 v4 t18 t19 t18 (0 : Int32) h) else (
  (getR h v0 12 95).bind fun t21 =>
  (ldI h t21 (t18 - (1 : Int32))).bind fun t22 =>
  (getR h v0 12 96).bind fun t23 =>
  (ldI h t23 (t18 - (1 : Int32))).bind fun t24 =>
  if t19 = 4 then none else
  fX12_begin_40 N v0 v1 v2 v3 v4 t18 t19 t18 (t22 + t24) h)) else none
theorem oX12_begin {N : Nat} {v0 : Nat} {v1 : Int32} {v2 : Int32} {v3 : Int32} {v4 : Int32} {h : pH} {q : pH} (hf : fX12_begin N v0 v1 v2 v3 v4 h = some q) : isO h v0 12 = true := by
  unfold fX12_begin at hf
  by_cases hc : isO h v0 12 = true
  · exact hc
  · rw [if_neg hc] at hf; cases hf
theorem cX12_begin (X : pX) (N d : Nat) (v0 : Nat) (v1 : Int32) (v2 : Int32) (v3 : Int32) (v4 : Int32) (h : pH) (q : pH) (hf : fX12_begin N v0 v1 v2 v3 v4 h = some q) : Calls X (d + 1) 310 [.ref v0, .int v1, .int v2, .int v3, .int v4] h (none, q, 0, 0) := by
  refine Calls.of M310 (Nat.le_of_ble_eq_true rfl) ?_
  show Run X (d + 1) 12 false (pCd 9187) 7 none 0 [(0, .ref v0), (1, .int v1), (2, .int v2), (3, .int v3), (4, .int v4)] [] h 0 0 (none, q, 0, 0)
  unfold fX12_begin at hf
  by_cases hc : isO h v0 12 = true
  · rw [if_pos hc] at hf
    have nv0 : ¬ v0 = 4 := isO_ne hc
    refine r_aload_n (dGet dX12_begin (j := 0) rfl) nv0 rfl ?_
    obtain ⟨t18, et18, hf⟩ := Option.bind_eq_some_iff.mp hf
    refine r_getI (dGet dX12_begin (j := 1) rfl) F12_554 et18 ?_
    refine r_istore (lv' := [(5, .int t18), (0, .ref v0), (1, .int v1), (2, .int v2), (3, .int v3), (4, .int v4)]) (dGet dX12_begin (j := 2) rfl) (by decide) rfl ?_
    refine r_aload_n (dGet dX12_begin (j := 3) rfl) nv0 rfl ?_
    obtain ⟨t19, et19, hf⟩ := Option.bind_eq_some_iff.mp hf
    refine r_getR (dGet dX12_begin (j := 4) rfl) F12_181 et19 ?_
    refine r_iload (dGet dX12_begin (j := 5) rfl) rfl ?_
    refine r_iload (dGet dX12_begin (j := 6) rfl) rfl ?_
    by_cases c20 : t18 = 0
    · rw [if_pos c20] at hf
      refine r_if_ne_f (dGet dX12_begin (j := 7) rfl) rfl c20 ?_
      refine r_iconst (dGet dX12_begin (j := 8) rfl) kI_0 ?_
      refine r_goto (dGet dX12_begin (j := 9) rfl) rfl ?_
      by_cases nt19 : t19 = 4
      · rw [if_pos nt19] at hf; cases hf
      rw [if_neg nt19] at hf
      refine Run.weak [(0, .ref v0), (1, .int v1), (2, .int v2), (3, .int v3), (4, .int v4), (5, .int t18)] (by simp) (by simp [pNd]) ?_
      exact lX12_begin_40 X N d v0 v1 v2 v3 v4 t18 t19 t18 (0 : Int32) h q hf nv0 nt19
    · rw [if_neg c20] at hf
      refine r_if_ne_t (dGet dX12_begin (j := 7) rfl) rfl c20 ?_
      refine r_aload_n (dGet dX12_begin (j := 10) rfl) nv0 rfl ?_
      obtain ⟨t21, et21, hf⟩ := Option.bind_eq_some_iff.mp hf
      refine r_getR (dGet dX12_begin (j := 11) rfl) F12_181 et21 ?_
      refine r_iload (dGet dX12_begin (j := 12) rfl) rfl ?_
      refine r_iconst (dGet dX12_begin (j := 13) rfl) kI_1 ?_
      refine r_isub (dGet dX12_begin (j := 14) rfl) ?_
      obtain ⟨t22, et22, hf⟩ := Option.bind_eq_some_iff.mp hf
      refine r_iald (dGet dX12_begin (j := 15) rfl) et22 ?_
      refine r_aload_n (dGet dX12_begin (j := 16) rfl) nv0 rfl ?_
      obtain ⟨t23, et23, hf⟩ := Option.bind_eq_some_iff.mp hf
      refine r_getR (dGet dX12_begin (j := 17) rfl) F12_184 et23 ?_
      refine r_iload (dGet dX12_begin (j := 18) rfl) rfl ?_
      refine r_iconst (dGet dX12_begin (j := 19) rfl) kI_1 ?_
      refine r_isub (dGet dX12_begin (j := 20) rfl) ?_
      obtain ⟨t24, et24, hf⟩ := Option.bind_eq_some_iff.mp hf
      refine r_iald (dGet dX12_begin (j := 21) rfl) et24 ?_
      refine r_iadd (dGet dX12_begin (j := 22) rfl) ?_
      by_cases nt19 : t19 = 4
      · rw [if_pos nt19] at hf; cases hf
      rw [if_neg nt19] at hf
      refine Run.weak [(0, .ref v0), (1, .int v1), (2, .int v2), (3, .int v3), (4, .int v4), (5, .int t18)] (by simp) (by simp [pNd]) ?_
      exact lX12_begin_40 X N d v0 v1 v2 v3 v4 t18 t19 t18 (t22 + t24) h q hf nv0 nt19
  · rw [if_neg hc] at hf; cases hf
def eX12_begins : List (Nat × Instr × Nat) := [(0, .aload_n 0, 1), (1, .getfield 46, 3), (4, .iload_n 1, 1), (5, .iaload, 1), (6, .istore_n 2, 1), (7, .iload_n 2, 1), (8, .iconst 5, 1), (9, .if_icmp .ne 81, 3), (12, .aload_n 0, 1), (13, .getfield 211, 3), (16, .aload_n 0, 1), (17, .getfield 593, 3), (20, .aload_n 0, 1), (21, .getfield 560, 3), (24, .iastore, 1), (25, .aload_n 0, 1), (26, .getfield 214, 3), (29, .aload_n 0, 1), (30, .getfield 593, 3), (33, .aload_n 0, 1), (34, .getfield 184, 3), (37, .aload_n 0, 1), (38, .getfield 554, 3), (41, .iconst 1, 1), (42, .isub, 1), (43, .iaload, 1), (44, .iastore, 1), (45, .aload_n 0, 1), (46, .dup, 1), (47, .getfield 593, 3), (50, .iconst 1, 1), (51, .iadd, 1), (52, .putfield 593, 3), (55, .aload_n 0, 1), (56, .bipush 7, 2), (58, .iload_n 1, 1), (59, .invokevirtual 596, 3), (62, .aload_n 0, 1), (63, .iconst 5, 1), (64, .aload_n 0, 1), (65, .getfield 184, 3), (68, .aload_n 0, 1), (69, .getfield 554, 3), (72, .iconst 1, 1), (73, .isub, 1), (74, .iaload, 1), (75, .invokevirtual 596, 3), (78, .aload_n 0, 1), (79, .iconst 3, 1), (80, .aload_n 0, 1), (81, .getfield 70, 3), (84, .iload_n 1, 1), (85, .iaload, 1), (86, .invokevirtual 596, 3), (89, .return_, 1), (90, .iload_n 2, 1), (91, .ifCond .ne 50, 3), (94, .aload_n 0, 1), (95, .getfield 55, 3), (98, .iload_n 1, 1), (99, .iaload, 1), (100, .ifCond .ge 41, 3), (103, .aload_n 0, 1), (104, .aload_n 0, 1), (105, .getfield 554, 3), (108, .iconst 1, 1), (109, .isub, 1), (110, .aload_n 0, 1), (111, .getfield 67, 3), (114, .iload_n 1, 1), (115, .iaload, 1), (116, .iconst 0, 1), (117, .iconst 0, 1), (118, .invokevirtual 598, 3), (121, .aload_n 0, 1), (122, .getfield 184, 3), (125, .aload_n 0, 1), (126, .getfield 554, 3), (129, .iconst 1, 1), (130, .isub, 1), (131, .aload_n 0, 1), (132, .getfield 67, 3), (135, .iload_n 1, 1), (136, .iaload, 1), (137, .iconst 1, 1), (138, .iadd, 1), (139, .iastore, 1), (140, .return_, 1), (141, .iload_n 2, 1), (142, .bipush 7, 2), (144, .if_icmp .ne 37, 3), (147, .aload_n 0, 1), (148, .getfield 37, 3), (151, .aload_n 0, 1), (152, .getfield 55, 3), (155, .iload_n 1, 1), (156, .iaload, 1), (157, .iaload, 1), (158, .iconst 3, 1), (159, .if_icmp .eq 10, 3), (162, .aload_n 0, 1), (163, .bipush 6, 2), (165, .iconst 0, 1), (166, .invokevirtual 596, 3), (169, .aload_n 0, 1), (170, .iconst 0, 1), (171, .aload_n 0, 1), (172, .getfield 55, 3), (175, .iload_n 1, 1), (176, .iaload, 1), (177, .invokevirtual 596, 3), (180, .return_, 1), (181, .aload_n 0, 1), (182, .iconst 4, 1), (183, .iload_n 1, 1), (184, .invokevirtual 596, 3), (187, .aload_n 0, 1), (188, .getfield 55, 3), (191, .iload_n 1, 1), (192, .iaload, 1), (193, .ifCond .lt 14, 3), (196, .aload_n 0, 1), (197, .iconst 0, 1), (198, .aload_n 0, 1), (199, .getfield 55, 3), (202, .iload_n 1, 1), (203, .iaload, 1), (204, .invokevirtual 596, 3), (207, .iload_n 2, 1), (208, .bipush 8, 2), (210, .if_icmp .eq 4, 3), (213, .return_, 1), (214, .aload_n 0, 1), (215, .getfield 58, 3), (218, .iload_n 1, 1), (219, .iaload, 1), (220, .istore_n 3, 1), (221, .aload_n 0, 1), (222, .getfield 25, 3), (225, .iload_n 3, 1), (226, .iaload, 1), (227, .bipush 7, 2), (229, .if_icmp .ne 14, 3), (232, .aload_n 0, 1), (233, .iconst 0, 1), (234, .aload_n 0, 1), (235, .getfield 31, 3), (238, .iload_n 3, 1), (239, .iaload, 1), (240, .invokevirtual 596, 3), (243, .aload_n 0, 1), (244, .getfield 25, 3), (247, .iload_n 3, 1), (248, .iaload, 1), (249, .bipush 7, 2), (251, .if_icmp .eq 14, 3), (254, .aload_n 0, 1), (255, .getfield 25, 3), (258, .iload_n 3, 1), (259, .iaload, 1), (260, .bipush 6, 2), (262, .if_icmp .ne 14, 3), (265, .aload_n 0, 1), (266, .iconst 0, 1), (267, .aload_n 0, 1), (268, .getfield 28, 3), (271, .iload_n 3, 1), (272, .iaload, 1), (273, .invokevirtual 596, 3), (276, .return_, 1)]
theorem dX12_begins : dChk (pCd 9215) eX12_begins = true := by decide +kernel
def fX12_begins_265 (N : Nat) (v0 : Nat) (v3 : Int32) (h : pH) : Option (pH) :=
  (getR h v0 12 17).bind fun t1 =>
  (ldI h t1 v3).bind fun t2 =>
  (fX12_todo N v0 (0 : Int32) t2 h).bind fun h3 =>
  some h3
theorem lX12_begins_265 (X : pX) (N d : Nat)  (v0 : Nat) (v3 : Int32) (h : pH) (q : pH) (hf : fX12_begins_265 N v0 v3 h = some q) (nv0 : ¬ v0 = 4) : Run X (d + 1) 12 false (pCd 9215) 4 none 265 [(0, .ref v0), (3, .int v3)] [] h 0 0 (none, q, 0, 0) := by
  unfold fX12_begins_265 at hf
  refine r_aload_n (dGet dX12_begins (j := 162) rfl) nv0 rfl ?_
  refine r_iconst (dGet dX12_begins (j := 163) rfl) kI_0 ?_
  refine r_aload_n (dGet dX12_begins (j := 164) rfl) nv0 rfl ?_
  obtain ⟨t1, et1, hf⟩ := Option.bind_eq_some_iff.mp hf
  refine r_getR (dGet dX12_begins (j := 165) rfl) F12_28 et1 ?_
  refine r_iload_n (dGet dX12_begins (j := 166) rfl) rfl ?_
  obtain ⟨t2, et2, hf⟩ := Option.bind_eq_some_iff.mp hf
  refine r_iald (dGet dX12_begins (j := 167) rfl) et2 ?_
  obtain ⟨h3, eh3, hf⟩ := Option.bind_eq_some_iff.mp hf
  refine r_virtual (dGet dX12_begins (j := 168) rfl) L12_596 M312 rfl rfl (Nat.le_of_ble_eq_true rfl) (oX12_todo eh3) (cX12_todo X N (d + 0) v0 (0 : Int32) t2 h h3 eh3) ?_
  have hq := Option.some.inj hf
  subst hq
  exact r_vret (dGet dX12_begins (j := 169) rfl) rfl
def fX12_begins_243 (N : Nat) (v0 : Nat) (v3 : Int32) (h : pH) : Option (pH) :=
  (getR h v0 12 16).bind fun t4 =>
  (ldI h t4 v3).bind fun t5 =>
  if t5 = (7 : Int32) then (
  fX12_begins_265 N v0 v3 h) else (
  (getR h v0 12 16).bind fun t7 =>
  (ldI h t7 v3).bind fun t8 =>
  if t8 = (6 : Int32) then (
  fX12_begins_265 N v0 v3 h) else (
  some h))
theorem lX12_begins_243 (X : pX) (N d : Nat)  (v0 : Nat) (v3 : Int32) (h : pH) (q : pH) (hf : fX12_begins_243 N v0 v3 h = some q) (nv0 : ¬ v0 = 4) : Run X (d + 1) 12 false (pCd 9215) 4 none 243 [(0, .ref v0), (3, .int v3)] [] h 0 0 (none, q, 0, 0) := by
  unfold fX12_begins_243 at hf
  refine r_aload_n (dGet dX12_begins (j := 150) rfl) nv0 rfl ?_
  obtain ⟨t4, et4, hf⟩ := Option.bind_eq_some_iff.mp hf
  refine r_getR (dGet dX12_begins (j := 151) rfl) F12_25 et4 ?_
  refine r_iload_n (dGet dX12_begins (j := 152) rfl) rfl ?_
  obtain ⟨t5, et5, hf⟩ := Option.bind_eq_some_iff.mp hf
  refine r_iald (dGet dX12_begins (j := 153) rfl) et5 ?_
  refine r_bipush (dGet dX12_begins (j := 154) rfl) kB_7 ?_
  by_cases c6 : t5 = (7 : Int32)
  · rw [if_pos c6] at hf
    refine r_icmp_eq_t (dGet dX12_begins (j := 155) rfl) rfl c6 ?_
    exact lX12_begins_265 X N d v0 v3 h q hf nv0
  · rw [if_neg c6] at hf
    refine r_icmp_eq_f (dGet dX12_begins (j := 155) rfl) rfl c6 ?_
    refine r_aload_n (dGet dX12_begins (j := 156) rfl) nv0 rfl ?_
    obtain ⟨t7, et7, hf⟩ := Option.bind_eq_some_iff.mp hf
    refine r_getR (dGet dX12_begins (j := 157) rfl) F12_25 et7 ?_
    refine r_iload_n (dGet dX12_begins (j := 158) rfl) rfl ?_
    obtain ⟨t8, et8, hf⟩ := Option.bind_eq_some_iff.mp hf
    refine r_iald (dGet dX12_begins (j := 159) rfl) et8 ?_
    refine r_bipush (dGet dX12_begins (j := 160) rfl) kB_6 ?_
    by_cases c9 : t8 = (6 : Int32)
    · rw [if_pos c9] at hf
      refine r_icmp_ne_f (dGet dX12_begins (j := 161) rfl) rfl c9 ?_
      exact lX12_begins_265 X N d v0 v3 h q hf nv0
    · rw [if_neg c9] at hf
      refine r_icmp_ne_t (dGet dX12_begins (j := 161) rfl) rfl c9 ?_
      have hq := Option.some.inj hf
      subst hq
      exact r_vret (dGet dX12_begins (j := 169) rfl) rfl
def fX12_begins_207 (N : Nat) (v0 : Nat) (v1 : Int32) (v2 : Int32) (h : pH) : Option (pH) :=
  if v2 = (8 : Int32) then (
  (getR h v0 12 30).bind fun t11 =>
  (ldI h t11 v1).bind fun t12 =>
  (getR h v0 12 16).bind fun t13 =>
  (ldI h t13 t12).bind fun t14 =>
  if t14 = (7 : Int32) then (
  (getR h v0 12 18).bind fun t16 =>
  (ldI h t16 t12).bind fun t17 =>
  (fX12_todo N v0 (0 : Int32) t17 h).bind fun h18 =>
  fX12_begins_243 N v0 t12 h18) else (
  fX12_begins_243 N v0 t12 h)) else (
  some h)
theorem lX12_begins_207 (X : pX) (N d : Nat)  (v0 : Nat) (v1 : Int32) (v2 : Int32) (h : pH) (q : pH) (hf : fX12_begins_207 N v0 v1 v2 h = some q) (nv0 : ¬ v0 = 4) : Run X (d + 1) 12 false (pCd 9215) 4 none 207 [(0, .ref v0), (1, .int v1), (2, .int v2)] [] h 0 0 (none, q, 0, 0) := by
  unfold fX12_begins_207 at hf
  refine r_iload_n (dGet dX12_begins (j := 128) rfl) rfl ?_
  refine r_bipush (dGet dX12_begins (j := 129) rfl) kB_8 ?_
  by_cases c10 : v2 = (8 : Int32)
  · rw [if_pos c10] at hf
    refine r_icmp_eq_t (dGet dX12_begins (j := 130) rfl) rfl c10 ?_
    refine r_aload_n (dGet dX12_begins (j := 132) rfl) nv0 rfl ?_
    obtain ⟨t11, et11, hf⟩ := Option.bind_eq_some_iff.mp hf
    refine r_getR (dGet dX12_begins (j := 133) rfl) F12_58 et11 ?_
    refine r_iload_n (dGet dX12_begins (j := 134) rfl) rfl ?_
    obtain ⟨t12, et12, hf⟩ := Option.bind_eq_some_iff.mp hf
    refine r_iald (dGet dX12_begins (j := 135) rfl) et12 ?_
    refine r_istore_n (lv' := [(3, .int t12), (0, .ref v0), (1, .int v1), (2, .int v2)]) (dGet dX12_begins (j := 136) rfl) (by decide) rfl ?_
    refine r_aload_n (dGet dX12_begins (j := 137) rfl) nv0 rfl ?_
    obtain ⟨t13, et13, hf⟩ := Option.bind_eq_some_iff.mp hf
    refine r_getR (dGet dX12_begins (j := 138) rfl) F12_25 et13 ?_
    refine r_iload_n (dGet dX12_begins (j := 139) rfl) rfl ?_
    obtain ⟨t14, et14, hf⟩ := Option.bind_eq_some_iff.mp hf
    refine r_iald (dGet dX12_begins (j := 140) rfl) et14 ?_
    refine r_bipush (dGet dX12_begins (j := 141) rfl) kB_7 ?_
    by_cases c15 : t14 = (7 : Int32)
    · rw [if_pos c15] at hf
      refine r_icmp_ne_f (dGet dX12_begins (j := 142) rfl) rfl c15 ?_
      refine r_aload_n (dGet dX12_begins (j := 143) rfl) nv0 rfl ?_
      refine r_iconst (dGet dX12_begins (j := 144) rfl) kI_0 ?_
      refine r_aload_n (dGet dX12_begins (j := 145) rfl) nv0 rfl ?_
      obtain ⟨t16, et16, hf⟩ := Option.bind_eq_some_iff.mp hf
      refine r_getR (dGet dX12_begins (j := 146) rfl) F12_31 et16 ?_
      refine r_iload_n (dGet dX12_begins (j := 147) rfl) rfl ?_
      obtain ⟨t17, et17, hf⟩ := Option.bind_eq_some_iff.mp hf
      refine r_iald (dGet dX12_begins (j := 148) rfl) et17 ?_
      obtain ⟨h18, eh18, hf⟩ := Option.bind_eq_some_iff.mp hf
      refine r_virtual (dGet dX12_begins (j := 149) rfl) L12_596 M312 rfl rfl (Nat.le_of_ble_eq_true rfl) (oX12_todo eh18) (cX12_todo X N (d + 0) v0 (0 : Int32) t17 h h18 eh18) ?_
      refine Run.weak [(0, .ref v0), (3, .int t12)] (by simp) (by simp [pNd]) ?_
      exact lX12_begins_243 X N d v0 t12 h18 q hf nv0
    · rw [if_neg c15] at hf
      refine r_icmp_ne_t (dGet dX12_begins (j := 142) rfl) rfl c15 ?_
      refine Run.weak [(0, .ref v0), (3, .int t12)] (by simp) (by simp [pNd]) ?_
      exact lX12_begins_243 X N d v0 t12 h q hf nv0
  · rw [if_neg c10] at hf
    refine r_icmp_eq_f (dGet dX12_begins (j := 130) rfl) rfl c10 ?_
    have hq := Option.some.inj hf
    subst hq
    exact r_vret (dGet dX12_begins (j := 131) rfl) rfl
def fX12_begins_169 (N : Nat) (v0 : Nat) (v1 : Int32) (h : pH) : Option (pH) :=
  (getR h v0 12 29).bind fun t19 =>
  (ldI h t19 v1).bind fun t20 =>
  (fX12_todo N v0 (0 : Int32) t20 h).bind fun h21 =>
  some h21
theorem lX12_begins_169 (X : pX) (N d : Nat)  (v0 : Nat) (v1 : Int32) (h : pH) (q : pH) (hf : fX12_begins_169 N v0 v1 h = some q) (nv0 : ¬ v0 = 4) : Run X (d + 1) 12 false (pCd 9215) 4 none 169 [(0, .ref v0), (1, .int v1)] [] h 0 0 (none, q, 0, 0) := by
  unfold fX12_begins_169 at hf
  refine r_aload_n (dGet dX12_begins (j := 104) rfl) nv0 rfl ?_
  refine r_iconst (dGet dX12_begins (j := 105) rfl) kI_0 ?_
  refine r_aload_n (dGet dX12_begins (j := 106) rfl) nv0 rfl ?_
  obtain ⟨t19, et19, hf⟩ := Option.bind_eq_some_iff.mp hf
  refine r_getR (dGet dX12_begins (j := 107) rfl) F12_55 et19 ?_
  refine r_iload_n (dGet dX12_begins (j := 108) rfl) rfl ?_
  obtain ⟨t20, et20, hf⟩ := Option.bind_eq_some_iff.mp hf
  refine r_iald (dGet dX12_begins (j := 109) rfl) et20 ?_
  obtain ⟨h21, eh21, hf⟩ := Option.bind_eq_some_iff.mp hf
  refine r_virtual (dGet dX12_begins (j := 110) rfl) L12_596 M312 rfl rfl (Nat.le_of_ble_eq_true rfl) (oX12_todo eh21) (cX12_todo X N (d + 0) v0 (0 : Int32) t20 h h21 eh21) ?_
  have hq := Option.some.inj hf
  subst hq
  exact r_vret (dGet dX12_begins (j := 111) rfl) rfl
def fX12_begins_141 (N : Nat) (v0 : Nat) (v1 : Int32) (v2 : Int32) (h : pH) : Option (pH) :=
  if v2 = (7 : Int32) then (
  (getR h v0 12 20).bind fun t30 =>
  (getR h v0 12 29).bind fun t31 =>
  (ldI h t31 v1).bind fun t32 =>
  (ldI h t30 t32).bind fun t33 =>
  if t33 = (3 : Int32) then (
  fX12_begins_169 N v0 v1 h) else (
  (fX12_todo N v0 (6 : Int32) (0 : Int32) h).bind fun h35 =>
  fX12_begins_169 N v0 v1 h35)) else (
  (fX12_todo N v0 (4 : Int32) v1 h).bind fun h23 =>
  (getR h23 v0 12 29).bind fun t24 =>
  (ldI h23 t24 v1).bind fun t25 =>
  if t25 < 0 then (
  fX12_begins_207 N v0 v1 v2 h23) else (
  (getR h23 v0 12 29).bind fun t27 =>
  (ldI h23 t27 v1).bind fun t28 =>
  (fX12_todo N v0 (0 : Int32) t28 h23).bind fun h29 =>
  fX12_begins_207 N v0 v1 v2 h29))
theorem lX12_begins_141 (X : pX) (N d : Nat)  (v0 : Nat) (v1 : Int32) (v2 : Int32) (h : pH) (q : pH) (hf : fX12_begins_141 N v0 v1 v2 h = some q) (nv0 : ¬ v0 = 4) : Run X (d + 1) 12 false (pCd 9215) 4 none 141 [(0, .ref v0), (1, .int v1), (2, .int v2)] [] h 0 0 (none, q, 0, 0) := by
  unfold fX12_begins_141 at hf
  refine r_iload_n (dGet dX12_begins (j := 88) rfl) rfl ?_
  refine r_bipush (dGet dX12_begins (j := 89) rfl) kB_7 ?_
  by_cases c22 : v2 = (7 : Int32)
  · rw [if_pos c22] at hf
    refine r_icmp_ne_f (dGet dX12_begins (j := 90) rfl) rfl c22 ?_
    refine r_aload_n (dGet dX12_begins (j := 91) rfl) nv0 rfl ?_
    obtain ⟨t30, et30, hf⟩ := Option.bind_eq_some_iff.mp hf
    refine r_getR (dGet dX12_begins (j := 92) rfl) F12_37 et30 ?_
    refine r_aload_n (dGet dX12_begins (j := 93) rfl) nv0 rfl ?_
    obtain ⟨t31, et31, hf⟩ := Option.bind_eq_some_iff.mp hf
    refine r_getR (dGet dX12_begins (j := 94) rfl) F12_55 et31 ?_
    refine r_iload_n (dGet dX12_begins (j := 95) rfl) rfl ?_
    obtain ⟨t32, et32, hf⟩ := Option.bind_eq_some_iff.mp hf
    refine r_iald (dGet dX12_begins (j := 96) rfl) et32 ?_
    obtain ⟨t33, et33, hf⟩ := Option.bind_eq_some_iff.mp hf
    refine r_iald (dGet dX12_begins (j := 97) rfl) et33 ?_
    refine r_iconst (dGet dX12_begins (j := 98) rfl) kI_3 ?_
    by_cases c34 : t33 = (3 : Int32)
    · rw [if_pos c34] at hf
      refine r_icmp_eq_t (dGet dX12_begins (j := 99) rfl) rfl c34 ?_
      refine Run.weak [(0, .ref v0), (1, .int v1)] (by simp) (by simp [pNd]) ?_
      exact lX12_begins_169 X N d v0 v1 h q hf nv0
    · rw [if_neg c34] at hf
      refine r_icmp_eq_f (dGet dX12_begins (j := 99) rfl) rfl c34 ?_
      refine r_aload_n (dGet dX12_begins (j := 100) rfl) nv0 rfl ?_
      refine r_bipush (dGet dX12_begins (j := 101) rfl) kB_6 ?_
      refine r_iconst (dGet dX12_begins (j := 102) rfl) kI_0 ?_
      obtain ⟨h35, eh35, hf⟩ := Option.bind_eq_some_iff.mp hf
      refine r_virtual (dGet dX12_begins (j := 103) rfl) L12_596 M312 rfl rfl (Nat.le_of_ble_eq_true rfl) (oX12_todo eh35) (cX12_todo X N (d + 0) v0 (6 : Int32) (0 : Int32) h h35 eh35) ?_
      refine Run.weak [(0, .ref v0), (1, .int v1)] (by simp) (by simp [pNd]) ?_
      exact lX12_begins_169 X N d v0 v1 h35 q hf nv0
  · rw [if_neg c22] at hf
    refine r_icmp_ne_t (dGet dX12_begins (j := 90) rfl) rfl c22 ?_
    refine r_aload_n (dGet dX12_begins (j := 112) rfl) nv0 rfl ?_
    refine r_iconst (dGet dX12_begins (j := 113) rfl) kI_4 ?_
    refine r_iload_n (dGet dX12_begins (j := 114) rfl) rfl ?_
    obtain ⟨h23, eh23, hf⟩ := Option.bind_eq_some_iff.mp hf
    refine r_virtual (dGet dX12_begins (j := 115) rfl) L12_596 M312 rfl rfl (Nat.le_of_ble_eq_true rfl) (oX12_todo eh23) (cX12_todo X N (d + 0) v0 (4 : Int32) v1 h h23 eh23) ?_
    refine r_aload_n (dGet dX12_begins (j := 116) rfl) nv0 rfl ?_
    obtain ⟨t24, et24, hf⟩ := Option.bind_eq_some_iff.mp hf
    refine r_getR (dGet dX12_begins (j := 117) rfl) F12_55 et24 ?_
    refine r_iload_n (dGet dX12_begins (j := 118) rfl) rfl ?_
    obtain ⟨t25, et25, hf⟩ := Option.bind_eq_some_iff.mp hf
    refine r_iald (dGet dX12_begins (j := 119) rfl) et25 ?_
    by_cases c26 : t25 < 0
    · rw [if_pos c26] at hf
      refine r_if_lt_t (dGet dX12_begins (j := 120) rfl) rfl c26 ?_
      exact lX12_begins_207 X N d v0 v1 v2 h23 q hf nv0
    · rw [if_neg c26] at hf
      refine r_if_lt_f (dGet dX12_begins (j := 120) rfl) rfl c26 ?_
      refine r_aload_n (dGet dX12_begins (j := 121) rfl) nv0 rfl ?_
      refine r_iconst (dGet dX12_begins (j := 122) rfl) kI_0 ?_
      refine r_aload_n (dGet dX12_begins (j := 123) rfl) nv0 rfl ?_
      obtain ⟨t27, et27, hf⟩ := Option.bind_eq_some_iff.mp hf
      refine r_getR (dGet dX12_begins (j := 124) rfl) F12_55 et27 ?_
      refine r_iload_n (dGet dX12_begins (j := 125) rfl) rfl ?_
      obtain ⟨t28, et28, hf⟩ := Option.bind_eq_some_iff.mp hf
      refine r_iald (dGet dX12_begins (j := 126) rfl) et28 ?_
      obtain ⟨h29, eh29, hf⟩ := Option.bind_eq_some_iff.mp hf
      refine r_virtual (dGet dX12_begins (j := 127) rfl) L12_596 M312 rfl rfl (Nat.le_of_ble_eq_true rfl) (oX12_todo eh29) (cX12_todo X N (d + 0) v0 (0 : Int32) t28 h23 h29 eh29) ?_
      exact lX12_begins_207 X N d v0 v1 v2 h29 q hf nv0
def fX12_begins (N : Nat) (v0 : Nat) (v1 : Int32) (h : pH) : Option (pH) := if isO h v0 12 = true then (
  (getR h v0 12 26).bind fun t36 =>
  (ldI h t36 v1).bind fun t37 =>
  if t37 = (5 : Int32) then (
  (getR h v0 12 107).bind fun t52 =>
  (getI h v0 12 106).bind fun t53 =>
  (getI h v0 12 100).bind fun t54 =>
  (stI h t52 t53 t54).bind fun h55 =>
  (getR h55 v0 12 108).bind fun t56 =>
  (getI h55 v0 12 106).bind fun t57 =>
  (getR h55 v0 12 96).bind fun t58 =>
  (getI h55 v0 12 93).bind fun t59 =>
  (ldI h55 t58 (t59 - (1 : Int32))).bind fun t60 =>
  (stI h55 t56 t57 t60).bind fun h61 =>
  (getI h61 v0 12 106).bind fun t62 =>
  (putI h61 v0 12 106 (t62 + (1 : Int32))).bind fun h63 =>
  (fX12_todo N v0 (7 : Int32) v1 h63).bind fun h64 =>
  (getR h64 v0 12 96).bind fun t65 =>
  (getI h64 v0 12 93).bind fun t66 =>
  (ldI h64 t65 (t66 - (1 : Int32))).bind fun t67 =>
  (fX12_todo N v0 (5 : Int32) t67 h64).bind fun h68 =>
  (getR h68 v0 12 34).bind fun t69 =>
  (ldI h68 t69 v1).bind fun t70 =>
  (fX12_todo N v0 (3 : Int32) t70 h68).bind fun h71 =>
  some h71) else (
  if t37 = 0 then (
  (getR h v0 12 29).bind fun t40 =>
  (ldI h t40 v1).bind fun t41 =>
  if 0 ≤ t41 then (
  fX12_begins_141 N v0 v1 t37 h) else (
  (getI h v0 12 93).bind fun t43 =>
  (getR h v0 12 33).bind fun t44 =>
  (ldI h t44 v1).bind fun t45 =>
  (fX12_setLocal N v0 (t43 - (1 : Int32)) t45 (0 : Int32) (0 : Int32) h).bind fun h46 =>
  (getR h46 v0 12 96).bind fun t47 =>
  (getI h46 v0 12 93).bind fun t48 =>
  (getR h46 v0 12 33).bind fun t49 =>
  (ldI h46 t49 v1).bind fun t50 =>
  (stI h46 t47 (t48 - (1 : Int32)) (t50 + (1 : Int32))).bind fun h51 =>
  some h51)) else (
  fX12_begins_141 N v0 v1 t37 h))) else none
theorem oX12_begins {N : Nat} {v0 : Nat} {v1 : Int32} {h : pH} {q : pH} (hf : fX12_begins N v0 v1 h = some q) : isO h v0 12 = true := by
  unfold fX12_begins at hf
  by_cases hc : isO h v0 12 = true
  · exact hc
  · rw [if_neg hc] at hf; cases hf
theorem cX12_begins (X : pX) (N d : Nat) (v0 : Nat) (v1 : Int32) (h : pH) (q : pH) (hf : fX12_begins N v0 v1 h = some q) : Calls X (d + 1) 317 [.ref v0, .int v1] h (none, q, 0, 0) := by
  refine Calls.of M317 (Nat.le_of_ble_eq_true rfl) ?_
  show Run X (d + 1) 12 false (pCd 9215) 4 none 0 [(0, .ref v0), (1, .int v1)] [] h 0 0 (none, q, 0, 0)
  unfold fX12_begins at hf
  by_cases hc : isO h v0 12 = true
  · rw [if_pos hc] at hf
    have nv0 : ¬ v0 = 4 := isO_ne hc
    refine r_aload_n (dGet dX12_begins (j := 0) rfl) nv0 rfl ?_
    obtain ⟨t36, et36, hf⟩ := Option.bind_eq_some_iff.mp hf
    refine r_getR (dGet dX12_begins (j := 1) rfl) F12_46 et36 ?_
    refine r_iload_n (dGet dX12_begins (j := 2) rfl) rfl ?_
    obtain ⟨t37, et37, hf⟩ := Option.bind_eq_some_iff.mp hf
    refine r_iald (dGet dX12_begins (j := 3) rfl) et37 ?_
    refine r_istore_n (lv' := [(2, .int t37), (0, .ref v0), (1, .int v1)]) (dGet dX12_begins (j := 4) rfl) (by decide) rfl ?_
    refine r_iload_n (dGet dX12_begins (j := 5) rfl) rfl ?_
    refine r_iconst (dGet dX12_begins (j := 6) rfl) kI_5 ?_
    by_cases c38 : t37 = (5 : Int32)
    · rw [if_pos c38] at hf
      refine r_icmp_ne_f (dGet dX12_begins (j := 7) rfl) rfl c38 ?_
      refine r_aload_n (dGet dX12_begins (j := 8) rfl) nv0 rfl ?_
      obtain ⟨t52, et52, hf⟩ := Option.bind_eq_some_iff.mp hf
      refine r_getR (dGet dX12_begins (j := 9) rfl) F12_211 et52 ?_
      refine r_aload_n (dGet dX12_begins (j := 10) rfl) nv0 rfl ?_
      obtain ⟨t53, et53, hf⟩ := Option.bind_eq_some_iff.mp hf
      refine r_getI (dGet dX12_begins (j := 11) rfl) F12_593 et53 ?_
      refine r_aload_n (dGet dX12_begins (j := 12) rfl) nv0 rfl ?_
      obtain ⟨t54, et54, hf⟩ := Option.bind_eq_some_iff.mp hf
      refine r_getI (dGet dX12_begins (j := 13) rfl) F12_560 et54 ?_
      obtain ⟨h55, eh55, hf⟩ := Option.bind_eq_some_iff.mp hf
      refine r_iast (dGet dX12_begins (j := 14) rfl) eh55 ?_
      refine r_aload_n (dGet dX12_begins (j := 15) rfl) nv0 rfl ?_
      obtain ⟨t56, et56, hf⟩ := Option.bind_eq_some_iff.mp hf
      refine r_getR (dGet dX12_begins (j := 16) rfl) F12_214 et56 ?_
      refine r_aload_n (dGet dX12_begins (j := 17) rfl) nv0 rfl ?_
      obtain ⟨t57, et57, hf⟩ := Option.bind_eq_some_iff.mp hf
      refine r_getI (dGet dX12_begins (j := 18) rfl) F12_593 et57 ?_
      refine r_aload_n (dGet dX12_begins (j := 19) rfl) nv0 rfl ?_
      obtain ⟨t58, et58, hf⟩ := Option.bind_eq_some_iff.mp hf
      refine r_getR (dGet dX12_begins (j := 20) rfl) F12_184 et58 ?_
      refine r_aload_n (dGet dX12_begins (j := 21) rfl) nv0 rfl ?_
      obtain ⟨t59, et59, hf⟩ := Option.bind_eq_some_iff.mp hf
      refine r_getI (dGet dX12_begins (j := 22) rfl) F12_554 et59 ?_
      refine r_iconst (dGet dX12_begins (j := 23) rfl) kI_1 ?_
      refine r_isub (dGet dX12_begins (j := 24) rfl) ?_
      obtain ⟨t60, et60, hf⟩ := Option.bind_eq_some_iff.mp hf
      refine r_iald (dGet dX12_begins (j := 25) rfl) et60 ?_
      obtain ⟨h61, eh61, hf⟩ := Option.bind_eq_some_iff.mp hf
      refine r_iast (dGet dX12_begins (j := 26) rfl) eh61 ?_
      refine r_aload_n (dGet dX12_begins (j := 27) rfl) nv0 rfl ?_
      refine r_dup (dGet dX12_begins (j := 28) rfl) rfl ?_
      obtain ⟨t62, et62, hf⟩ := Option.bind_eq_some_iff.mp hf
      refine r_getI (dGet dX12_begins (j := 29) rfl) F12_593 et62 ?_
      refine r_iconst (dGet dX12_begins (j := 30) rfl) kI_1 ?_
      refine r_iadd (dGet dX12_begins (j := 31) rfl) ?_
      obtain ⟨h63, eh63, hf⟩ := Option.bind_eq_some_iff.mp hf
      refine r_putI (dGet dX12_begins (j := 32) rfl) F12_593 rfl rfl eh63 ?_
      refine r_aload_n (dGet dX12_begins (j := 33) rfl) nv0 rfl ?_
      refine r_bipush (dGet dX12_begins (j := 34) rfl) kB_7 ?_
      refine r_iload_n (dGet dX12_begins (j := 35) rfl) rfl ?_
      obtain ⟨h64, eh64, hf⟩ := Option.bind_eq_some_iff.mp hf
      refine r_virtual (dGet dX12_begins (j := 36) rfl) L12_596 M312 rfl rfl (Nat.le_of_ble_eq_true rfl) (oX12_todo eh64) (cX12_todo X N (d + 0) v0 (7 : Int32) v1 h63 h64 eh64) ?_
      refine r_aload_n (dGet dX12_begins (j := 37) rfl) nv0 rfl ?_
      refine r_iconst (dGet dX12_begins (j := 38) rfl) kI_5 ?_
      refine r_aload_n (dGet dX12_begins (j := 39) rfl) nv0 rfl ?_
      obtain ⟨t65, et65, hf⟩ := Option.bind_eq_some_iff.mp hf
      refine r_getR (dGet dX12_begins (j := 40) rfl) F12_184 et65 ?_
      refine r_aload_n (dGet dX12_begins (j := 41) rfl) nv0 rfl ?_
      obtain ⟨t66, et66, hf⟩ := Option.bind_eq_some_iff.mp hf
      refine r_getI (dGet dX12_begins (j := 42) rfl) F12_554 et66 ?_
      refine r_iconst (dGet dX12_begins (j := 43) rfl) kI_1 ?_
      refine r_isub (dGet dX12_begins (j := 44) rfl) ?_
      obtain ⟨t67, et67, hf⟩ := Option.bind_eq_some_iff.mp hf
      refine r_iald (dGet dX12_begins (j := 45) rfl) et67 ?_
      obtain ⟨h68, eh68, hf⟩ := Option.bind_eq_some_iff.mp hf
      refine r_virtual (dGet dX12_begins (j := 46) rfl) L12_596 M312 rfl rfl (Nat.le_of_ble_eq_true rfl) (oX12_todo eh68) (cX12_todo X N (d + 0) v0 (5 : Int32) t67 h64 h68 eh68) ?_
      refine r_aload_n (dGet dX12_begins (j := 47) rfl) nv0 rfl ?_
      refine r_iconst (dGet dX12_begins (j := 48) rfl) kI_3 ?_
      refine r_aload_n (dGet dX12_begins (j := 49) rfl) nv0 rfl ?_
      obtain ⟨t69, et69, hf⟩ := Option.bind_eq_some_iff.mp hf
      refine r_getR (dGet dX12_begins (j := 50) rfl) F12_70 et69 ?_
      refine r_iload_n (dGet dX12_begins (j := 51) rfl) rfl ?_
      obtain ⟨t70, et70, hf⟩ := Option.bind_eq_some_iff.mp hf
      refine r_iald (dGet dX12_begins (j := 52) rfl) et70 ?_
      obtain ⟨h71, eh71, hf⟩ := Option.bind_eq_some_iff.mp hf
      refine r_virtual (dGet dX12_begins (j := 53) rfl) L12_596 M312 rfl rfl (Nat.le_of_ble_eq_true rfl) (oX12_todo eh71) (cX12_todo X N (d + 0) v0 (3 : Int32) t70 h68 h71 eh71) ?_
      have hq := Option.some.inj hf
      subst hq
      exact r_vret (dGet dX12_begins (j := 54) rfl) rfl
    · rw [if_neg c38] at hf
      refine r_icmp_ne_t (dGet dX12_begins (j := 7) rfl) rfl c38 ?_
      refine r_iload_n (dGet dX12_begins (j := 55) rfl) rfl ?_
      by_cases c39 : t37 = 0
      · rw [if_pos c39] at hf
        refine r_if_ne_f (dGet dX12_begins (j := 56) rfl) rfl c39 ?_
        refine r_aload_n (dGet dX12_begins (j := 57) rfl) nv0 rfl ?_
        obtain ⟨t40, et40, hf⟩ := Option.bind_eq_some_iff.mp hf
        refine r_getR (dGet dX12_begins (j := 58) rfl) F12_55 et40 ?_
        refine r_iload_n (dGet dX12_begins (j := 59) rfl) rfl ?_
        obtain ⟨t41, et41, hf⟩ := Option.bind_eq_some_iff.mp hf
        refine r_iald (dGet dX12_begins (j := 60) rfl) et41 ?_
        by_cases c42 : 0 ≤ t41
        · rw [if_pos c42] at hf
          refine r_if_ge_t (dGet dX12_begins (j := 61) rfl) rfl c42 ?_
          refine Run.weak [(0, .ref v0), (1, .int v1), (2, .int t37)] (by simp) (by simp [pNd]) ?_
          exact lX12_begins_141 X N d v0 v1 t37 h q hf nv0
        · rw [if_neg c42] at hf
          refine r_if_ge_f (dGet dX12_begins (j := 61) rfl) rfl c42 ?_
          refine r_aload_n (dGet dX12_begins (j := 62) rfl) nv0 rfl ?_
          refine r_aload_n (dGet dX12_begins (j := 63) rfl) nv0 rfl ?_
          obtain ⟨t43, et43, hf⟩ := Option.bind_eq_some_iff.mp hf
          refine r_getI (dGet dX12_begins (j := 64) rfl) F12_554 et43 ?_
          refine r_iconst (dGet dX12_begins (j := 65) rfl) kI_1 ?_
          refine r_isub (dGet dX12_begins (j := 66) rfl) ?_
          refine r_aload_n (dGet dX12_begins (j := 67) rfl) nv0 rfl ?_
          obtain ⟨t44, et44, hf⟩ := Option.bind_eq_some_iff.mp hf
          refine r_getR (dGet dX12_begins (j := 68) rfl) F12_67 et44 ?_
          refine r_iload_n (dGet dX12_begins (j := 69) rfl) rfl ?_
          obtain ⟨t45, et45, hf⟩ := Option.bind_eq_some_iff.mp hf
          refine r_iald (dGet dX12_begins (j := 70) rfl) et45 ?_
          refine r_iconst (dGet dX12_begins (j := 71) rfl) kI_0 ?_
          refine r_iconst (dGet dX12_begins (j := 72) rfl) kI_0 ?_
          obtain ⟨h46, eh46, hf⟩ := Option.bind_eq_some_iff.mp hf
          refine r_virtual (dGet dX12_begins (j := 73) rfl) L12_598 M311 rfl rfl (Nat.le_of_ble_eq_true rfl) (oX12_setLocal eh46) (cX12_setLocal X N (d + 0) v0 (t43 - (1 : Int32)) t45 (0 : Int32) (0 : Int32) h h46 eh46) ?_
          refine r_aload_n (dGet dX12_begins (j := 74) rfl) nv0 rfl ?_
          obtain ⟨t47, et47, hf⟩ := Option.bind_eq_some_iff.mp hf
          refine r_getR (dGet dX12_begins (j := 75) rfl) F12_184 et47 ?_
          refine r_aload_n (dGet dX12_begins (j := 76) rfl) nv0 rfl ?_
          obtain ⟨t48, et48, hf⟩ := Option.bind_eq_some_iff.mp hf
          refine r_getI (dGet dX12_begins (j := 77) rfl) F12_554 et48 ?_
          refine r_iconst (dGet dX12_begins (j := 78) rfl) kI_1 ?_
          refine r_isub (dGet dX12_begins (j := 79) rfl) ?_
          refine r_aload_n (dGet dX12_begins (j := 80) rfl) nv0 rfl ?_
          obtain ⟨t49, et49, hf⟩ := Option.bind_eq_some_iff.mp hf
          refine r_getR (dGet dX12_begins (j := 81) rfl) F12_67 et49 ?_
          refine r_iload_n (dGet dX12_begins (j := 82) rfl) rfl ?_
          obtain ⟨t50, et50, hf⟩ := Option.bind_eq_some_iff.mp hf
          refine r_iald (dGet dX12_begins (j := 83) rfl) et50 ?_
          refine r_iconst (dGet dX12_begins (j := 84) rfl) kI_1 ?_
          refine r_iadd (dGet dX12_begins (j := 85) rfl) ?_
          obtain ⟨h51, eh51, hf⟩ := Option.bind_eq_some_iff.mp hf
          refine r_iast (dGet dX12_begins (j := 86) rfl) eh51 ?_
          have hq := Option.some.inj hf
          subst hq
          exact r_vret (dGet dX12_begins (j := 87) rfl) rfl
      · rw [if_neg c39] at hf
        refine r_if_ne_t (dGet dX12_begins (j := 56) rfl) rfl c39 ?_
        refine Run.weak [(0, .ref v0), (1, .int v1), (2, .int t37)] (by simp) (by simp [pNd]) ?_
        exact lX12_begins_141 X N d v0 v1 t37 h q hf nv0
  · rw [if_neg hc] at hf; cases hf
def eX12_begun : List (Nat × Instr × Nat) := [(0, .aload_n 0, 1), (1, .getfield 366, 3), (4, .istore_n 2, 1), (5, .aload_n 0, 1), (6, .getfield 46, 3), (9, .iload_n 2, 1), (10, .iload_n 1, 1), (11, .iastore, 1), (12, .aload_n 0, 1), (13, .getfield 49, 3), (16, .iload_n 2, 1), (17, .aload_n 0, 1), (18, .getfield 246, 3), (21, .iastore, 1), (22, .aload_n 0, 1), (23, .getfield 52, 3), (26, .iload_n 2, 1), (27, .aload_n 0, 1), (28, .getfield 302, 3), (31, .iastore, 1), (32, .aload_n 0, 1), (33, .getfield 55, 3), (36, .iload_n 2, 1), (37, .iconst (-1), 1), (38, .iastore, 1), (39, .aload_n 0, 1), (40, .getfield 58, 3), (43, .iload_n 2, 1), (44, .iconst (-1), 1), (45, .iastore, 1), (46, .aload_n 0, 1), (47, .getfield 64, 3), (50, .iload_n 2, 1), (51, .iconst (-1), 1), (52, .iastore, 1), (53, .aload_n 0, 1), (54, .getfield 70, 3), (57, .iload_n 2, 1), (58, .iconst (-1), 1), (59, .iastore, 1), (60, .aload_n 0, 1), (61, .getfield 73, 3), (64, .iload_n 2, 1), (65, .iconst (-1), 1), (66, .iastore, 1), (67, .aload_n 0, 1), (68, .getfield 76, 3), (71, .iload_n 2, 1), (72, .iconst (-1), 1), (73, .iastore, 1), (74, .aload_n 0, 1), (75, .dup, 1), (76, .getfield 366, 3), (79, .iconst 1, 1), (80, .iadd, 1), (81, .putfield 366, 3), (84, .iload_n 2, 1), (85, .ireturn, 1)]
theorem dX12_begun : dChk (pCd 8207) eX12_begun = true := by decide +kernel
def fX12_begun (N : Nat) (v0 : Nat) (v1 : Int32) (h : pH) : Option (Int32 × pH) := if isO h v0 12 = true then (
  (getI h v0 12 25).bind fun t1 =>
  (getR h v0 12 26).bind fun t2 =>
  (stI h t2 t1 v1).bind fun h3 =>
  (getR h3 v0 12 27).bind fun t4 =>
  (getI h3 v0 12 6).bind fun t5 =>
  (stI h3 t4 t1 t5).bind fun h6 =>
  (getR h6 v0 12 28).bind fun t7 =>
  (getI h6 v0 12 15).bind fun t8 =>
  (stI h6 t7 t1 t8).bind fun h9 =>
  (getR h9 v0 12 29).bind fun t10 =>
  (stI h9 t10 t1 (-1 : Int32)).bind fun h11 =>
  (getR h11 v0 12 30).bind fun t12 =>
  (stI h11 t12 t1 (-1 : Int32)).bind fun h13 =>
  (getR h13 v0 12 32).bind fun t14 =>
  (stI h13 t14 t1 (-1 : Int32)).bind fun h15 =>
  (getR h15 v0 12 34).bind fun t16 =>
  (stI h15 t16 t1 (-1 : Int32)).bind fun h17 =>
  (getR h17 v0 12 35).bind fun t18 =>
  (stI h17 t18 t1 (-1 : Int32)).bind fun h19 =>
  (getR h19 v0 12 36).bind fun t20 =>
  (stI h19 t20 t1 (-1 : Int32)).bind fun h21 =>
  (getI h21 v0 12 25).bind fun t22 =>
  (putI h21 v0 12 25 (t22 + (1 : Int32))).bind fun h23 =>
  some (t1, h23)) else none
theorem oX12_begun {N : Nat} {v0 : Nat} {v1 : Int32} {h : pH} {q : Int32 × pH} (hf : fX12_begun N v0 v1 h = some q) : isO h v0 12 = true := by
  unfold fX12_begun at hf
  by_cases hc : isO h v0 12 = true
  · exact hc
  · rw [if_neg hc] at hf; cases hf
theorem cX12_begun (X : pX) (N d : Nat) (v0 : Nat) (v1 : Int32) (h : pH) (q : Int32 × pH) (hf : fX12_begun N v0 v1 h = some q) : Calls X (d + 0) 256 [.ref v0, .int v1] h (some (.int q.1), q.2, 0, 0) := by
  refine Calls.of M256 (Nat.le_of_ble_eq_true rfl) ?_
  show Run X (d + 0) 12 false (pCd 8207) 3 (some .int) 0 [(0, .ref v0), (1, .int v1)] [] h 0 0 (some (.int q.1), q.2, 0, 0)
  unfold fX12_begun at hf
  by_cases hc : isO h v0 12 = true
  · rw [if_pos hc] at hf
    have nv0 : ¬ v0 = 4 := isO_ne hc
    refine r_aload_n (dGet dX12_begun (j := 0) rfl) nv0 rfl ?_
    obtain ⟨t1, et1, hf⟩ := Option.bind_eq_some_iff.mp hf
    refine r_getI (dGet dX12_begun (j := 1) rfl) F12_366 et1 ?_
    refine r_istore_n (lv' := [(2, .int t1), (0, .ref v0), (1, .int v1)]) (dGet dX12_begun (j := 2) rfl) (by decide) rfl ?_
    refine r_aload_n (dGet dX12_begun (j := 3) rfl) nv0 rfl ?_
    obtain ⟨t2, et2, hf⟩ := Option.bind_eq_some_iff.mp hf
    refine r_getR (dGet dX12_begun (j := 4) rfl) F12_46 et2 ?_
    refine r_iload_n (dGet dX12_begun (j := 5) rfl) rfl ?_
    refine r_iload_n (dGet dX12_begun (j := 6) rfl) rfl ?_
    obtain ⟨h3, eh3, hf⟩ := Option.bind_eq_some_iff.mp hf
    refine r_iast (dGet dX12_begun (j := 7) rfl) eh3 ?_
    refine r_aload_n (dGet dX12_begun (j := 8) rfl) nv0 rfl ?_
    obtain ⟨t4, et4, hf⟩ := Option.bind_eq_some_iff.mp hf
    refine r_getR (dGet dX12_begun (j := 9) rfl) F12_49 et4 ?_
    refine r_iload_n (dGet dX12_begun (j := 10) rfl) rfl ?_
    refine r_aload_n (dGet dX12_begun (j := 11) rfl) nv0 rfl ?_
    obtain ⟨t5, et5, hf⟩ := Option.bind_eq_some_iff.mp hf
    refine r_getI (dGet dX12_begun (j := 12) rfl) F12_246 et5 ?_
    obtain ⟨h6, eh6, hf⟩ := Option.bind_eq_some_iff.mp hf
    refine r_iast (dGet dX12_begun (j := 13) rfl) eh6 ?_
    refine r_aload_n (dGet dX12_begun (j := 14) rfl) nv0 rfl ?_
    obtain ⟨t7, et7, hf⟩ := Option.bind_eq_some_iff.mp hf
    refine r_getR (dGet dX12_begun (j := 15) rfl) F12_52 et7 ?_
    refine r_iload_n (dGet dX12_begun (j := 16) rfl) rfl ?_
    refine r_aload_n (dGet dX12_begun (j := 17) rfl) nv0 rfl ?_
    obtain ⟨t8, et8, hf⟩ := Option.bind_eq_some_iff.mp hf
    refine r_getI (dGet dX12_begun (j := 18) rfl) F12_302 et8 ?_
    obtain ⟨h9, eh9, hf⟩ := Option.bind_eq_some_iff.mp hf
    refine r_iast (dGet dX12_begun (j := 19) rfl) eh9 ?_
    refine r_aload_n (dGet dX12_begun (j := 20) rfl) nv0 rfl ?_
    obtain ⟨t10, et10, hf⟩ := Option.bind_eq_some_iff.mp hf
    refine r_getR (dGet dX12_begun (j := 21) rfl) F12_55 et10 ?_
    refine r_iload_n (dGet dX12_begun (j := 22) rfl) rfl ?_
    refine r_iconst (dGet dX12_begun (j := 23) rfl) kI_m1 ?_
    obtain ⟨h11, eh11, hf⟩ := Option.bind_eq_some_iff.mp hf
    refine r_iast (dGet dX12_begun (j := 24) rfl) eh11 ?_
    refine r_aload_n (dGet dX12_begun (j := 25) rfl) nv0 rfl ?_
    obtain ⟨t12, et12, hf⟩ := Option.bind_eq_some_iff.mp hf
    refine r_getR (dGet dX12_begun (j := 26) rfl) F12_58 et12 ?_
    refine r_iload_n (dGet dX12_begun (j := 27) rfl) rfl ?_
    refine r_iconst (dGet dX12_begun (j := 28) rfl) kI_m1 ?_
    obtain ⟨h13, eh13, hf⟩ := Option.bind_eq_some_iff.mp hf
    refine r_iast (dGet dX12_begun (j := 29) rfl) eh13 ?_
    refine r_aload_n (dGet dX12_begun (j := 30) rfl) nv0 rfl ?_
    obtain ⟨t14, et14, hf⟩ := Option.bind_eq_some_iff.mp hf
    refine r_getR (dGet dX12_begun (j := 31) rfl) F12_64 et14 ?_
    refine r_iload_n (dGet dX12_begun (j := 32) rfl) rfl ?_
    refine r_iconst (dGet dX12_begun (j := 33) rfl) kI_m1 ?_
    obtain ⟨h15, eh15, hf⟩ := Option.bind_eq_some_iff.mp hf
    refine r_iast (dGet dX12_begun (j := 34) rfl) eh15 ?_
    refine r_aload_n (dGet dX12_begun (j := 35) rfl) nv0 rfl ?_
    obtain ⟨t16, et16, hf⟩ := Option.bind_eq_some_iff.mp hf
    refine r_getR (dGet dX12_begun (j := 36) rfl) F12_70 et16 ?_
    refine r_iload_n (dGet dX12_begun (j := 37) rfl) rfl ?_
    refine r_iconst (dGet dX12_begun (j := 38) rfl) kI_m1 ?_
    obtain ⟨h17, eh17, hf⟩ := Option.bind_eq_some_iff.mp hf
    refine r_iast (dGet dX12_begun (j := 39) rfl) eh17 ?_
    refine r_aload_n (dGet dX12_begun (j := 40) rfl) nv0 rfl ?_
    obtain ⟨t18, et18, hf⟩ := Option.bind_eq_some_iff.mp hf
    refine r_getR (dGet dX12_begun (j := 41) rfl) F12_73 et18 ?_
    refine r_iload_n (dGet dX12_begun (j := 42) rfl) rfl ?_
    refine r_iconst (dGet dX12_begun (j := 43) rfl) kI_m1 ?_
    obtain ⟨h19, eh19, hf⟩ := Option.bind_eq_some_iff.mp hf
    refine r_iast (dGet dX12_begun (j := 44) rfl) eh19 ?_
    refine r_aload_n (dGet dX12_begun (j := 45) rfl) nv0 rfl ?_
    obtain ⟨t20, et20, hf⟩ := Option.bind_eq_some_iff.mp hf
    refine r_getR (dGet dX12_begun (j := 46) rfl) F12_76 et20 ?_
    refine r_iload_n (dGet dX12_begun (j := 47) rfl) rfl ?_
    refine r_iconst (dGet dX12_begun (j := 48) rfl) kI_m1 ?_
    obtain ⟨h21, eh21, hf⟩ := Option.bind_eq_some_iff.mp hf
    refine r_iast (dGet dX12_begun (j := 49) rfl) eh21 ?_
    refine r_aload_n (dGet dX12_begun (j := 50) rfl) nv0 rfl ?_
    refine r_dup (dGet dX12_begun (j := 51) rfl) rfl ?_
    obtain ⟨t22, et22, hf⟩ := Option.bind_eq_some_iff.mp hf
    refine r_getI (dGet dX12_begun (j := 52) rfl) F12_366 et22 ?_
    refine r_iconst (dGet dX12_begun (j := 53) rfl) kI_1 ?_
    refine r_iadd (dGet dX12_begun (j := 54) rfl) ?_
    obtain ⟨h23, eh23, hf⟩ := Option.bind_eq_some_iff.mp hf
    refine r_putI (dGet dX12_begun (j := 55) rfl) F12_366 rfl rfl eh23 ?_
    refine r_iload_n (dGet dX12_begun (j := 56) rfl) rfl ?_
    have hq := Option.some.inj hf
    subst hq
    exact r_iret (dGet dX12_begun (j := 57) rfl) rfl rfl
  · rw [if_neg hc] at hf; cases hf
def eX12_isSign : List (Nat × Instr × Nat) := [(0, .aload_n 0, 1), (1, .getfield 263, 3), (4, .iconst 4, 1), (5, .if_icmp .ne 22, 3), (8, .aload_n 0, 1), (9, .getfield 256, 3), (12, .iload_n 1, 1), (13, .if_icmp .ne 14, 3), (16, .aload_n 0, 1), (17, .getfield 283, 3), (20, .ifCond .ge 7, 3), (23, .iconst 1, 1), (24, .goto 4, 3), (27, .iconst 0, 1), (28, .ireturn, 1)]
theorem dX12_isSign : dChk (pCd 8171) eX12_isSign = true := by decide +kernel
def fX12_isSign (N : Nat) (v0 : Nat) (v1 : Int32) (h : pH) : Option (Int32 × pH) := if isO h v0 12 = true then (
  (getI h v0 12 5).bind fun t1 =>
  if t1 = (4 : Int32) then (
  (getI h v0 12 8).bind fun t3 =>
  if t3 = v1 then (
  (getI h v0 12 9).bind fun t5 =>
  if 0 ≤ t5 then (
  some ((0 : Int32), h)) else (
  some ((1 : Int32), h))) else (
  some ((0 : Int32), h))) else (
  some ((0 : Int32), h))) else none
theorem oX12_isSign {N : Nat} {v0 : Nat} {v1 : Int32} {h : pH} {q : Int32 × pH} (hf : fX12_isSign N v0 v1 h = some q) : isO h v0 12 = true := by
  unfold fX12_isSign at hf
  by_cases hc : isO h v0 12 = true
  · exact hc
  · rw [if_neg hc] at hf; cases hf
theorem cX12_isSign (X : pX) (N d : Nat) (v0 : Nat) (v1 : Int32) (h : pH) (q : Int32 × pH) (hf : fX12_isSign N v0 v1 h = some q) : Calls X (d + 0) 247 [.ref v0, .int v1] h (some (.int q.1), q.2, 0, 0) := by
  refine Calls.of M247 (Nat.le_of_ble_eq_true rfl) ?_
  show Run X (d + 0) 12 false (pCd 8171) 2 (some .boolean) 0 [(0, .ref v0), (1, .int v1)] [] h 0 0 (some (.int q.1), q.2, 0, 0)
  unfold fX12_isSign at hf
  by_cases hc : isO h v0 12 = true
  · rw [if_pos hc] at hf
    have nv0 : ¬ v0 = 4 := isO_ne hc
    refine r_aload_n (dGet dX12_isSign (j := 0) rfl) nv0 rfl ?_
    obtain ⟨t1, et1, hf⟩ := Option.bind_eq_some_iff.mp hf
    refine r_getI (dGet dX12_isSign (j := 1) rfl) F12_263 et1 ?_
    refine r_iconst (dGet dX12_isSign (j := 2) rfl) kI_4 ?_
    by_cases c2 : t1 = (4 : Int32)
    · rw [if_pos c2] at hf
      refine r_icmp_ne_f (dGet dX12_isSign (j := 3) rfl) rfl c2 ?_
      refine r_aload_n (dGet dX12_isSign (j := 4) rfl) nv0 rfl ?_
      obtain ⟨t3, et3, hf⟩ := Option.bind_eq_some_iff.mp hf
      refine r_getI (dGet dX12_isSign (j := 5) rfl) F12_256 et3 ?_
      refine r_iload_n (dGet dX12_isSign (j := 6) rfl) rfl ?_
      by_cases c4 : t3 = v1
      · rw [if_pos c4] at hf
        refine r_icmp_ne_f (dGet dX12_isSign (j := 7) rfl) rfl c4 ?_
        refine r_aload_n (dGet dX12_isSign (j := 8) rfl) nv0 rfl ?_
        obtain ⟨t5, et5, hf⟩ := Option.bind_eq_some_iff.mp hf
        refine r_getI (dGet dX12_isSign (j := 9) rfl) F12_283 et5 ?_
        by_cases c6 : 0 ≤ t5
        · rw [if_pos c6] at hf
          refine r_if_ge_t (dGet dX12_isSign (j := 10) rfl) rfl c6 ?_
          refine r_iconst (dGet dX12_isSign (j := 13) rfl) kI_0 ?_
          have hq := Option.some.inj hf
          subst hq
          exact r_iret (dGet dX12_isSign (j := 14) rfl) rfl (by decide)
        · rw [if_neg c6] at hf
          refine r_if_ge_f (dGet dX12_isSign (j := 10) rfl) rfl c6 ?_
          refine r_iconst (dGet dX12_isSign (j := 11) rfl) kI_1 ?_
          refine r_goto (dGet dX12_isSign (j := 12) rfl) rfl ?_
          have hq := Option.some.inj hf
          subst hq
          exact r_iret (dGet dX12_isSign (j := 14) rfl) rfl (by decide)
      · rw [if_neg c4] at hf
        refine r_icmp_ne_t (dGet dX12_isSign (j := 7) rfl) rfl c4 ?_
        refine r_iconst (dGet dX12_isSign (j := 13) rfl) kI_0 ?_
        have hq := Option.some.inj hf
        subst hq
        exact r_iret (dGet dX12_isSign (j := 14) rfl) rfl (by decide)
    · rw [if_neg c2] at hf
      refine r_icmp_ne_t (dGet dX12_isSign (j := 3) rfl) rfl c2 ?_
      refine r_iconst (dGet dX12_isSign (j := 13) rfl) kI_0 ?_
      have hq := Option.some.inj hf
      subst hq
      exact r_iret (dGet dX12_isSign (j := 14) rfl) rfl (by decide)
  · rw [if_neg hc] at hf; cases hf
def eX12_fails : List (Nat × Instr × Nat) := [(0, .aload_n 0, 1), (1, .getfield 283, 3), (4, .ifCond .ge 8, 3), (7, .aload_n 0, 1), (8, .iload_n 1, 1), (9, .putfield 283, 3), (12, .aload_n 0, 1), (13, .iconst 0, 1), (14, .putfield 263, 3), (17, .iconst (-1), 1), (18, .ireturn, 1)]
theorem dX12_fails : dChk (pCd 8159) eX12_fails = true := by decide +kernel
def fX12_fails_12 (N : Nat) (v0 : Nat) (h : pH) : Option (Int32 × pH) :=
  (putI h v0 12 5 (0 : Int32)).bind fun h1 =>
  some ((-1 : Int32), h1)
theorem lX12_fails_12 (X : pX) (N d : Nat)  (v0 : Nat) (h : pH) (q : Int32 × pH) (hf : fX12_fails_12 N v0 h = some q) (nv0 : ¬ v0 = 4) : Run X (d + 0) 12 false (pCd 8159) 2 (some .int) 12 [(0, .ref v0)] [] h 0 0 (some (.int q.1), q.2, 0, 0) := by
  unfold fX12_fails_12 at hf
  refine r_aload_n (dGet dX12_fails (j := 6) rfl) nv0 rfl ?_
  refine r_iconst (dGet dX12_fails (j := 7) rfl) kI_0 ?_
  obtain ⟨h1, eh1, hf⟩ := Option.bind_eq_some_iff.mp hf
  refine r_putI (dGet dX12_fails (j := 8) rfl) F12_263 rfl rfl eh1 ?_
  refine r_iconst (dGet dX12_fails (j := 9) rfl) kI_m1 ?_
  have hq := Option.some.inj hf
  subst hq
  exact r_iret (dGet dX12_fails (j := 10) rfl) rfl rfl
def fX12_fails (N : Nat) (v0 : Nat) (v1 : Int32) (h : pH) : Option (Int32 × pH) := if isO h v0 12 = true then (
  (getI h v0 12 9).bind fun t2 =>
  if 0 ≤ t2 then (
  fX12_fails_12 N v0 h) else (
  (putI h v0 12 9 v1).bind fun h4 =>
  fX12_fails_12 N v0 h4)) else none
theorem oX12_fails {N : Nat} {v0 : Nat} {v1 : Int32} {h : pH} {q : Int32 × pH} (hf : fX12_fails N v0 v1 h = some q) : isO h v0 12 = true := by
  unfold fX12_fails at hf
  by_cases hc : isO h v0 12 = true
  · exact hc
  · rw [if_neg hc] at hf; cases hf
theorem cX12_fails (X : pX) (N d : Nat) (v0 : Nat) (v1 : Int32) (h : pH) (q : Int32 × pH) (hf : fX12_fails N v0 v1 h = some q) : Calls X (d + 0) 244 [.ref v0, .int v1] h (some (.int q.1), q.2, 0, 0) := by
  refine Calls.of M244 (Nat.le_of_ble_eq_true rfl) ?_
  show Run X (d + 0) 12 false (pCd 8159) 2 (some .int) 0 [(0, .ref v0), (1, .int v1)] [] h 0 0 (some (.int q.1), q.2, 0, 0)
  unfold fX12_fails at hf
  by_cases hc : isO h v0 12 = true
  · rw [if_pos hc] at hf
    have nv0 : ¬ v0 = 4 := isO_ne hc
    refine r_aload_n (dGet dX12_fails (j := 0) rfl) nv0 rfl ?_
    obtain ⟨t2, et2, hf⟩ := Option.bind_eq_some_iff.mp hf
    refine r_getI (dGet dX12_fails (j := 1) rfl) F12_283 et2 ?_
    by_cases c3 : 0 ≤ t2
    · rw [if_pos c3] at hf
      refine r_if_ge_t (dGet dX12_fails (j := 2) rfl) rfl c3 ?_
      refine Run.weak [(0, .ref v0)] (by simp) (by simp [pNd]) ?_
      exact lX12_fails_12 X N d v0 h q hf nv0
    · rw [if_neg c3] at hf
      refine r_if_ge_f (dGet dX12_fails (j := 2) rfl) rfl c3 ?_
      refine r_aload_n (dGet dX12_fails (j := 3) rfl) nv0 rfl ?_
      refine r_iload_n (dGet dX12_fails (j := 4) rfl) rfl ?_
      obtain ⟨h4, eh4, hf⟩ := Option.bind_eq_some_iff.mp hf
      refine r_putI (dGet dX12_fails (j := 5) rfl) F12_283 rfl rfl eh4 ?_
      refine Run.weak [(0, .ref v0)] (by simp) (by simp [pNd]) ?_
      exact lX12_fails_12 X N d v0 h4 q hf nv0
  · rw [if_neg hc] at hf; cases hf
def eX12_byteAt : List (Nat × Instr × Nat) := [(0, .iload_n 1, 1), (1, .aload_n 0, 1), (2, .getfield 240, 3), (5, .if_icmp .ge 12, 3), (8, .aload_n 0, 1), (9, .getfield 13, 3), (12, .iload_n 1, 1), (13, .iaload, 1), (14, .goto 4, 3), (17, .iconst 0, 1), (18, .ireturn, 1)]
theorem dX12_byteAt : dChk (pCd 8117) eX12_byteAt = true := by decide +kernel
def fX12_byteAt (N : Nat) (v0 : Nat) (v1 : Int32) (h : pH) : Option (Int32 × pH) := if isO h v0 12 = true then (
  (getI h v0 12 3).bind fun t1 =>
  if t1 ≤ v1 then (
  some ((0 : Int32), h)) else (
  (getR h v0 12 2).bind fun t3 =>
  (ldI h t3 v1).bind fun t4 =>
  some (t4, h))) else none
theorem oX12_byteAt {N : Nat} {v0 : Nat} {v1 : Int32} {h : pH} {q : Int32 × pH} (hf : fX12_byteAt N v0 v1 h = some q) : isO h v0 12 = true := by
  unfold fX12_byteAt at hf
  by_cases hc : isO h v0 12 = true
  · exact hc
  · rw [if_neg hc] at hf; cases hf
theorem cX12_byteAt (X : pX) (N d : Nat) (v0 : Nat) (v1 : Int32) (h : pH) (q : Int32 × pH) (hf : fX12_byteAt N v0 v1 h = some q) : Calls X (d + 0) 234 [.ref v0, .int v1] h (some (.int q.1), q.2, 0, 0) := by
  refine Calls.of M234 (Nat.le_of_ble_eq_true rfl) ?_
  show Run X (d + 0) 12 false (pCd 8117) 2 (some .int) 0 [(0, .ref v0), (1, .int v1)] [] h 0 0 (some (.int q.1), q.2, 0, 0)
  unfold fX12_byteAt at hf
  by_cases hc : isO h v0 12 = true
  · rw [if_pos hc] at hf
    have nv0 : ¬ v0 = 4 := isO_ne hc
    refine r_iload_n (dGet dX12_byteAt (j := 0) rfl) rfl ?_
    refine r_aload_n (dGet dX12_byteAt (j := 1) rfl) nv0 rfl ?_
    obtain ⟨t1, et1, hf⟩ := Option.bind_eq_some_iff.mp hf
    refine r_getI (dGet dX12_byteAt (j := 2) rfl) F12_240 et1 ?_
    by_cases c2 : t1 ≤ v1
    · rw [if_pos c2] at hf
      refine r_icmp_ge_t (dGet dX12_byteAt (j := 3) rfl) rfl c2 ?_
      refine r_iconst (dGet dX12_byteAt (j := 9) rfl) kI_0 ?_
      have hq := Option.some.inj hf
      subst hq
      exact r_iret (dGet dX12_byteAt (j := 10) rfl) rfl rfl
    · rw [if_neg c2] at hf
      refine r_icmp_ge_f (dGet dX12_byteAt (j := 3) rfl) rfl c2 ?_
      refine r_aload_n (dGet dX12_byteAt (j := 4) rfl) nv0 rfl ?_
      obtain ⟨t3, et3, hf⟩ := Option.bind_eq_some_iff.mp hf
      refine r_getR (dGet dX12_byteAt (j := 5) rfl) F12_13 et3 ?_
      refine r_iload_n (dGet dX12_byteAt (j := 6) rfl) rfl ?_
      obtain ⟨t4, et4, hf⟩ := Option.bind_eq_some_iff.mp hf
      refine r_iald (dGet dX12_byteAt (j := 7) rfl) et4 ?_
      refine r_goto (dGet dX12_byteAt (j := 8) rfl) rfl ?_
      have hq := Option.some.inj hf
      subst hq
      exact r_iret (dGet dX12_byteAt (j := 10) rfl) rfl rfl
  · rw [if_neg hc] at hf; cases hf
def eX12_isIn : List (Nat × Instr × Nat) := [(0, .lload_n 0, 1), (1, .lload_n 2, 1), (2, .lcmp, 1), (3, .ifCond .lt 14, 3), (6, .lload_n 0, 1), (7, .lload 4, 2), (9, .lcmp, 1), (10, .ifCond .gt 7, 3), (13, .iconst 1, 1), (14, .goto 4, 3), (17, .iconst 0, 1), (18, .ireturn, 1)]
theorem dX12_isIn : dChk (pCd 8125) eX12_isIn = true := by decide +kernel
def fX12_isIn (N : Nat) (v0 : Int64) (v1 : Int64) (v2 : Int64) (h : pH) : Option (Int32 × pH) :=
  if (lg_cmp v0 v1) < 0 then (
  some ((0 : Int32), h)) else (
  if 0 < (lg_cmp v0 v2) then (
  some ((0 : Int32), h)) else (
  some ((1 : Int32), h)))
theorem cX12_isIn (X : pX) (N d : Nat) (v0 : Int64) (v1 : Int64) (v2 : Int64) (h : pH) (q : Int32 × pH) (hf : fX12_isIn N v0 v1 v2 h = some q) : Calls X (d + 0) 236 [.long v0, .long v1, .long v2] h (some (.int q.1), q.2, 0, 0) := by
  refine Calls.of M236 (Nat.le_of_ble_eq_true rfl) ?_
  show Run X (d + 0) 12 false (pCd 8125) 6 (some .boolean) 0 [(0, .long v0), (2, .long v1), (4, .long v2)] [] h 0 0 (some (.int q.1), q.2, 0, 0)
  unfold fX12_isIn at hf
  refine r_lload_n (dGet dX12_isIn (j := 0) rfl) rfl ?_
  refine r_lload_n (dGet dX12_isIn (j := 1) rfl) rfl ?_
  refine r_lcmp (dGet dX12_isIn (j := 2) rfl) ?_
  by_cases c1 : (lg_cmp v0 v1) < 0
  · rw [if_pos c1] at hf
    refine r_if_lt_t (dGet dX12_isIn (j := 3) rfl) rfl c1 ?_
    refine r_iconst (dGet dX12_isIn (j := 10) rfl) kI_0 ?_
    have hq := Option.some.inj hf
    subst hq
    exact r_iret (dGet dX12_isIn (j := 11) rfl) rfl (by decide)
  · rw [if_neg c1] at hf
    refine r_if_lt_f (dGet dX12_isIn (j := 3) rfl) rfl c1 ?_
    refine r_lload_n (dGet dX12_isIn (j := 4) rfl) rfl ?_
    refine r_lload (dGet dX12_isIn (j := 5) rfl) rfl ?_
    refine r_lcmp (dGet dX12_isIn (j := 6) rfl) ?_
    by_cases c2 : 0 < (lg_cmp v0 v2)
    · rw [if_pos c2] at hf
      refine r_if_gt_t (dGet dX12_isIn (j := 7) rfl) rfl c2 ?_
      refine r_iconst (dGet dX12_isIn (j := 10) rfl) kI_0 ?_
      have hq := Option.some.inj hf
      subst hq
      exact r_iret (dGet dX12_isIn (j := 11) rfl) rfl (by decide)
    · rw [if_neg c2] at hf
      refine r_if_gt_f (dGet dX12_isIn (j := 7) rfl) rfl c2 ?_
      refine r_iconst (dGet dX12_isIn (j := 8) rfl) kI_1 ?_
      refine r_goto (dGet dX12_isIn (j := 9) rfl) rfl ?_
      have hq := Option.some.inj hf
      subst hq
      exact r_iret (dGet dX12_isIn (j := 11) rfl) rfl (by decide)
def eX12_isDigit : List (Nat × Instr × Nat) := [(0, .iload_n 0, 1), (1, .i2l, 1), (2, .ldc2_w 224, 3), (5, .ldc2_w 226, 3), (8, .invokestatic 228, 3), (11, .ireturn, 1)]
theorem dX12_isDigit : dChk (pCd 8130) eX12_isDigit = true := by decide +kernel
def fX12_isDigit (N : Nat) (v0 : Int32) (h : pH) : Option (Int32 × pH) :=
  (fX12_isIn N (v0.toInt64) (48 : Int64) (57 : Int64) h).bind fun q1 =>
  if pRet .boolean q1.1 = true then some (q1.1, q1.2) else none
theorem cX12_isDigit (X : pX) (N d : Nat) (v0 : Int32) (h : pH) (q : Int32 × pH) (hf : fX12_isDigit N v0 h = some q) : Calls X (d + 1) 237 [.int v0] h (some (.int q.1), q.2, 0, 0) := by
  refine Calls.of M237 (Nat.le_of_ble_eq_true rfl) ?_
  show Run X (d + 1) 12 false (pCd 8130) 1 (some .boolean) 0 [(0, .int v0)] [] h 0 0 (some (.int q.1), q.2, 0, 0)
  unfold fX12_isDigit at hf
  refine r_iload_n (dGet dX12_isDigit (j := 0) rfl) rfl ?_
  refine r_i2l (dGet dX12_isDigit (j := 1) rfl) ?_
  refine r_ldc2 (v := 48) (dGet dX12_isDigit (j := 2) rfl) (by decide +kernel : pFind pKl 12 224 = some (48, 8131)) ?_
  refine r_ldc2 (v := 57) (dGet dX12_isDigit (j := 3) rfl) (by decide +kernel : pFind pKl 12 226 = some (57, 8132)) ?_
  obtain ⟨q1, eq1, hf⟩ := Option.bind_eq_some_iff.mp hf
  refine r_static (dGet dX12_isDigit (j := 4) rfl) (by decide +kernel) (by decide +kernel) L12_228 M236 rfl rfl (Nat.le_of_ble_eq_true rfl) (cX12_isIn X N (d + 0) (v0.toInt64) (48 : Int64) (57 : Int64) h q1 eq1) ?_
  by_cases c2 : pRet .boolean q1.1 = true
  · rw [if_pos c2] at hf
    have hq := Option.some.inj hf
    subst hq
    exact r_iret (dGet dX12_isDigit (j := 5) rfl) rfl c2
  · rw [if_neg c2] at hf; cases hf
def eX12_isLetter : List (Nat × Instr × Nat) := [(0, .iload_n 0, 1), (1, .i2l, 1), (2, .ldc2_w 232, 3), (5, .ldc2_w 234, 3), (8, .invokestatic 228, 3), (11, .ifCond .ne 17, 3), (14, .iload_n 0, 1), (15, .i2l, 1), (16, .ldc2_w 236, 3), (19, .ldc2_w 238, 3), (22, .invokestatic 228, 3), (25, .ifCond .eq 7, 3), (28, .iconst 1, 1), (29, .goto 4, 3), (32, .iconst 0, 1), (33, .ireturn, 1)]
theorem dX12_isLetter : dChk (pCd 8120) eX12_isLetter = true := by decide +kernel
def fX12_isLetter (N : Nat) (v0 : Int32) (h : pH) : Option (Int32 × pH) :=
  (fX12_isIn N (v0.toInt64) (97 : Int64) (122 : Int64) h).bind fun q1 =>
  if q1.1 = 0 then (
  (fX12_isIn N (v0.toInt64) (65 : Int64) (90 : Int64) q1.2).bind fun q3 =>
  if q3.1 = 0 then (
  some ((0 : Int32), q3.2)) else (
  some ((1 : Int32), q3.2))) else (
  some ((1 : Int32), q1.2))
theorem cX12_isLetter (X : pX) (N d : Nat) (v0 : Int32) (h : pH) (q : Int32 × pH) (hf : fX12_isLetter N v0 h = some q) : Calls X (d + 1) 235 [.int v0] h (some (.int q.1), q.2, 0, 0) := by
  refine Calls.of M235 (Nat.le_of_ble_eq_true rfl) ?_
  show Run X (d + 1) 12 false (pCd 8120) 1 (some .boolean) 0 [(0, .int v0)] [] h 0 0 (some (.int q.1), q.2, 0, 0)
  unfold fX12_isLetter at hf
  refine r_iload_n (dGet dX12_isLetter (j := 0) rfl) rfl ?_
  refine r_i2l (dGet dX12_isLetter (j := 1) rfl) ?_
  refine r_ldc2 (v := 97) (dGet dX12_isLetter (j := 2) rfl) (by decide +kernel : pFind pKl 12 232 = some (97, 8121)) ?_
  refine r_ldc2 (v := 122) (dGet dX12_isLetter (j := 3) rfl) (by decide +kernel : pFind pKl 12 234 = some (122, 8122)) ?_
  obtain ⟨q1, eq1, hf⟩ := Option.bind_eq_some_iff.mp hf
  refine r_static (dGet dX12_isLetter (j := 4) rfl) (by decide +kernel) (by decide +kernel) L12_228 M236 rfl rfl (Nat.le_of_ble_eq_true rfl) (cX12_isIn X N (d + 0) (v0.toInt64) (97 : Int64) (122 : Int64) h q1 eq1) ?_
  by_cases c2 : q1.1 = 0
  · rw [if_pos c2] at hf
    refine r_if_ne_f (dGet dX12_isLetter (j := 5) rfl) rfl c2 ?_
    refine r_iload_n (dGet dX12_isLetter (j := 6) rfl) rfl ?_
    refine r_i2l (dGet dX12_isLetter (j := 7) rfl) ?_
    refine r_ldc2 (v := 65) (dGet dX12_isLetter (j := 8) rfl) (by decide +kernel : pFind pKl 12 236 = some (65, 8126)) ?_
    refine r_ldc2 (v := 90) (dGet dX12_isLetter (j := 9) rfl) (by decide +kernel : pFind pKl 12 238 = some (90, 8127)) ?_
    obtain ⟨q3, eq3, hf⟩ := Option.bind_eq_some_iff.mp hf
    refine r_static (dGet dX12_isLetter (j := 10) rfl) (by decide +kernel) (by decide +kernel) L12_228 M236 rfl rfl (Nat.le_of_ble_eq_true rfl) (cX12_isIn X N (d + 0) (v0.toInt64) (65 : Int64) (90 : Int64) q1.2 q3 eq3) ?_
    by_cases c4 : q3.1 = 0
    · rw [if_pos c4] at hf
      refine r_if_eq_t (dGet dX12_isLetter (j := 11) rfl) rfl c4 ?_
      refine r_iconst (dGet dX12_isLetter (j := 14) rfl) kI_0 ?_
      have hq := Option.some.inj hf
      subst hq
      exact r_iret (dGet dX12_isLetter (j := 15) rfl) rfl (by decide)
    · rw [if_neg c4] at hf
      refine r_if_eq_f (dGet dX12_isLetter (j := 11) rfl) rfl c4 ?_
      refine r_iconst (dGet dX12_isLetter (j := 12) rfl) kI_1 ?_
      refine r_goto (dGet dX12_isLetter (j := 13) rfl) rfl ?_
      have hq := Option.some.inj hf
      subst hq
      exact r_iret (dGet dX12_isLetter (j := 15) rfl) rfl (by decide)
  · rw [if_neg c2] at hf
    refine r_if_ne_t (dGet dX12_isLetter (j := 5) rfl) rfl c2 ?_
    refine r_iconst (dGet dX12_isLetter (j := 12) rfl) kI_1 ?_
    refine r_goto (dGet dX12_isLetter (j := 13) rfl) rfl ?_
    have hq := Option.some.inj hf
    subst hq
    exact r_iret (dGet dX12_isLetter (j := 15) rfl) rfl (by decide)
def eX12_isSignByte : List (Nat × Instr × Nat) := [(0, .iload_n 0, 1), (1, .bipush 123, 2), (3, .if_icmp .eq 105, 3), (6, .iload_n 0, 1), (7, .bipush 125, 2), (9, .if_icmp .eq 99, 3), (12, .iload_n 0, 1), (13, .bipush 40, 2), (15, .if_icmp .eq 93, 3), (18, .iload_n 0, 1), (19, .bipush 41, 2), (21, .if_icmp .eq 87, 3), (24, .iload_n 0, 1), (25, .bipush 91, 2), (27, .if_icmp .eq 81, 3), (30, .iload_n 0, 1), (31, .bipush 93, 2), (33, .if_icmp .eq 75, 3), (36, .iload_n 0, 1), (37, .bipush 59, 2), (39, .if_icmp .eq 69, 3), (42, .iload_n 0, 1), (43, .bipush 44, 2), (45, .if_icmp .eq 63, 3), (48, .iload_n 0, 1), (49, .bipush 46, 2), (51, .if_icmp .eq 57, 3), (54, .iload_n 0, 1), (55, .bipush 58, 2), (57, .if_icmp .eq 51, 3), (60, .iload_n 0, 1), (61, .bipush 61, 2), (63, .if_icmp .eq 45, 3), (66, .iload_n 0, 1), (67, .bipush 60, 2), (69, .if_icmp .eq 39, 3), (72, .iload_n 0, 1), (73, .bipush 43, 2), (75, .if_icmp .eq 33, 3), (78, .iload_n 0, 1), (79, .bipush 45, 2), (81, .if_icmp .eq 27, 3), (84, .iload_n 0, 1), (85, .bipush 42, 2), (87, .if_icmp .eq 21, 3), (90, .iload_n 0, 1), (91, .bipush 47, 2), (93, .if_icmp .eq 15, 3), (96, .iload_n 0, 1), (97, .bipush 37, 2), (99, .if_icmp .eq 9, 3), (102, .iload_n 0, 1), (103, .bipush 33, 2), (105, .if_icmp .ne 7, 3), (108, .iconst 1, 1), (109, .goto 4, 3), (112, .iconst 0, 1), (113, .ireturn, 1)]
theorem dX12_isSignByte : dChk (pCd 8147) eX12_isSignByte = true := by decide +kernel
def fX12_isSignByte (N : Nat) (v0 : Int32) (h : pH) : Option (Int32 × pH) :=
  if v0 = (123 : Int32) then (
  some ((1 : Int32), h)) else (
  if v0 = (125 : Int32) then (
  some ((1 : Int32), h)) else (
  if v0 = (40 : Int32) then (
  some ((1 : Int32), h)) else (
  if v0 = (41 : Int32) then (
  some ((1 : Int32), h)) else (
  if v0 = (91 : Int32) then (
  some ((1 : Int32), h)) else (
  if v0 = (93 : Int32) then (
  some ((1 : Int32), h)) else (
  if v0 = (59 : Int32) then (
  some ((1 : Int32), h)) else (
  if v0 = (44 : Int32) then (
  some ((1 : Int32), h)) else (
  if v0 = (46 : Int32) then (
  some ((1 : Int32), h)) else (
  if v0 = (58 : Int32) then (
  some ((1 : Int32), h)) else (
  if v0 = (61 : Int32) then (
  some ((1 : Int32), h)) else (
  if v0 = (60 : Int32) then (
  some ((1 : Int32), h)) else (
  if v0 = (43 : Int32) then (
  some ((1 : Int32), h)) else (
  if v0 = (45 : Int32) then (
  some ((1 : Int32), h)) else (
  if v0 = (42 : Int32) then (
  some ((1 : Int32), h)) else (
  if v0 = (47 : Int32) then (
  some ((1 : Int32), h)) else (
  if v0 = (37 : Int32) then (
  some ((1 : Int32), h)) else (
  if v0 = (33 : Int32) then (
  some ((1 : Int32), h)) else (
  some ((0 : Int32), h)))))))))))))))))))
theorem cX12_isSignByte (X : pX) (N d : Nat) (v0 : Int32) (h : pH) (q : Int32 × pH) (hf : fX12_isSignByte N v0 h = some q) : Calls X (d + 0) 241 [.int v0] h (some (.int q.1), q.2, 0, 0) := by
  refine Calls.of M241 (Nat.le_of_ble_eq_true rfl) ?_
  show Run X (d + 0) 12 false (pCd 8147) 1 (some .boolean) 0 [(0, .int v0)] [] h 0 0 (some (.int q.1), q.2, 0, 0)
  unfold fX12_isSignByte at hf
  refine r_iload_n (dGet dX12_isSignByte (j := 0) rfl) rfl ?_
  refine r_bipush (dGet dX12_isSignByte (j := 1) rfl) kB_123 ?_
  by_cases c1 : v0 = (123 : Int32)
  · rw [if_pos c1] at hf
    refine r_icmp_eq_t (dGet dX12_isSignByte (j := 2) rfl) rfl c1 ?_
    refine r_iconst (dGet dX12_isSignByte (j := 54) rfl) kI_1 ?_
    refine r_goto (dGet dX12_isSignByte (j := 55) rfl) rfl ?_
    have hq := Option.some.inj hf
    subst hq
    exact r_iret (dGet dX12_isSignByte (j := 57) rfl) rfl (by decide)
  · rw [if_neg c1] at hf
    refine r_icmp_eq_f (dGet dX12_isSignByte (j := 2) rfl) rfl c1 ?_
    refine r_iload_n (dGet dX12_isSignByte (j := 3) rfl) rfl ?_
    refine r_bipush (dGet dX12_isSignByte (j := 4) rfl) kB_125 ?_
    by_cases c2 : v0 = (125 : Int32)
    · rw [if_pos c2] at hf
      refine r_icmp_eq_t (dGet dX12_isSignByte (j := 5) rfl) rfl c2 ?_
      refine r_iconst (dGet dX12_isSignByte (j := 54) rfl) kI_1 ?_
      refine r_goto (dGet dX12_isSignByte (j := 55) rfl) rfl ?_
      have hq := Option.some.inj hf
      subst hq
      exact r_iret (dGet dX12_isSignByte (j := 57) rfl) rfl (by decide)
    · rw [if_neg c2] at hf
      refine r_icmp_eq_f (dGet dX12_isSignByte (j := 5) rfl) rfl c2 ?_
      refine r_iload_n (dGet dX12_isSignByte (j := 6) rfl) rfl ?_
      refine r_bipush (dGet dX12_isSignByte (j := 7) rfl) kB_40 ?_
      by_cases c3 : v0 = (40 : Int32)
      · rw [if_pos c3] at hf
        refine r_icmp_eq_t (dGet dX12_isSignByte (j := 8) rfl) rfl c3 ?_
        refine r_iconst (dGet dX12_isSignByte (j := 54) rfl) kI_1 ?_
        refine r_goto (dGet dX12_isSignByte (j := 55) rfl) rfl ?_
        have hq := Option.some.inj hf
        subst hq
        exact r_iret (dGet dX12_isSignByte (j := 57) rfl) rfl (by decide)
      · rw [if_neg c3] at hf
        refine r_icmp_eq_f (dGet dX12_isSignByte (j := 8) rfl) rfl c3 ?_
        refine r_iload_n (dGet dX12_isSignByte (j := 9) rfl) rfl ?_
        refine r_bipush (dGet dX12_isSignByte (j := 10) rfl) kB_41 ?_
        by_cases c4 : v0 = (41 : Int32)
        · rw [if_pos c4] at hf
          refine r_icmp_eq_t (dGet dX12_isSignByte (j := 11) rfl) rfl c4 ?_
          refine r_iconst (dGet dX12_isSignByte (j := 54) rfl) kI_1 ?_
          refine r_goto (dGet dX12_isSignByte (j := 55) rfl) rfl ?_
          have hq := Option.some.inj hf
          subst hq
          exact r_iret (dGet dX12_isSignByte (j := 57) rfl) rfl (by decide)
        · rw [if_neg c4] at hf
          refine r_icmp_eq_f (dGet dX12_isSignByte (j := 11) rfl) rfl c4 ?_
          refine r_iload_n (dGet dX12_isSignByte (j := 12) rfl) rfl ?_
          refine r_bipush (dGet dX12_isSignByte (j := 13) rfl) kB_91 ?_
          by_cases c5 : v0 = (91 : Int32)
          · rw [if_pos c5] at hf
            refine r_icmp_eq_t (dGet dX12_isSignByte (j := 14) rfl) rfl c5 ?_
            refine r_iconst (dGet dX12_isSignByte (j := 54) rfl) kI_1 ?_
            refine r_goto (dGet dX12_isSignByte (j := 55) rfl) rfl ?_
            have hq := Option.some.inj hf
            subst hq
            exact r_iret (dGet dX12_isSignByte (j := 57) rfl) rfl (by decide)
          · rw [if_neg c5] at hf
            refine r_icmp_eq_f (dGet dX12_isSignByte (j := 14) rfl) rfl c5 ?_
            refine r_iload_n (dGet dX12_isSignByte (j := 15) rfl) rfl ?_
            refine r_bipush (dGet dX12_isSignByte (j := 16) rfl) kB_93 ?_
            by_cases c6 : v0 = (93 : Int32)
            · rw [if_pos c6] at hf
              refine r_icmp_eq_t (dGet dX12_isSignByte (j := 17) rfl) rfl c6 ?_
              refine r_iconst (dGet dX12_isSignByte (j := 54) rfl) kI_1 ?_
              refine r_goto (dGet dX12_isSignByte (j := 55) rfl) rfl ?_
              have hq := Option.some.inj hf
              subst hq
              exact r_iret (dGet dX12_isSignByte (j := 57) rfl) rfl (by decide)
            · rw [if_neg c6] at hf
              refine r_icmp_eq_f (dGet dX12_isSignByte (j := 17) rfl) rfl c6 ?_
              refine r_iload_n (dGet dX12_isSignByte (j := 18) rfl) rfl ?_
              refine r_bipush (dGet dX12_isSignByte (j := 19) rfl) kB_59 ?_
              by_cases c7 : v0 = (59 : Int32)
              · rw [if_pos c7] at hf
                refine r_icmp_eq_t (dGet dX12_isSignByte (j := 20) rfl) rfl c7 ?_
                refine r_iconst (dGet dX12_isSignByte (j := 54) rfl) kI_1 ?_
                refine r_goto (dGet dX12_isSignByte (j := 55) rfl) rfl ?_
                have hq := Option.some.inj hf
                subst hq
                exact r_iret (dGet dX12_isSignByte (j := 57) rfl) rfl (by decide)
              · rw [if_neg c7] at hf
                refine r_icmp_eq_f (dGet dX12_isSignByte (j := 20) rfl) rfl c7 ?_
                refine r_iload_n (dGet dX12_isSignByte (j := 21) rfl) rfl ?_
                refine r_bipush (dGet dX12_isSignByte (j := 22) rfl) kB_44 ?_
                by_cases c8 : v0 = (44 : Int32)
                · rw [if_pos c8] at hf
                  refine r_icmp_eq_t (dGet dX12_isSignByte (j := 23) rfl) rfl c8 ?_
                  refine r_iconst (dGet dX12_isSignByte (j := 54) rfl) kI_1 ?_
                  refine r_goto (dGet dX12_isSignByte (j := 55) rfl) rfl ?_
                  have hq := Option.some.inj hf
                  subst hq
                  exact r_iret (dGet dX12_isSignByte (j := 57) rfl) rfl (by decide)
                · rw [if_neg c8] at hf
                  refine r_icmp_eq_f (dGet dX12_isSignByte (j := 23) rfl) rfl c8 ?_
                  refine r_iload_n (dGet dX12_isSignByte (j := 24) rfl) rfl ?_
                  refine r_bipush (dGet dX12_isSignByte (j := 25) rfl) kB_46 ?_
                  by_cases c9 : v0 = (46 : Int32)
                  · rw [if_pos c9] at hf
                    refine r_icmp_eq_t (dGet dX12_isSignByte (j := 26) rfl) rfl c9 ?_
                    refine r_iconst (dGet dX12_isSignByte (j := 54) rfl) kI_1 ?_
                    refine r_goto (dGet dX12_isSignByte (j := 55) rfl) rfl ?_
                    have hq := Option.some.inj hf
                    subst hq
                    exact r_iret (dGet dX12_isSignByte (j := 57) rfl) rfl (by decide)
                  · rw [if_neg c9] at hf
                    refine r_icmp_eq_f (dGet dX12_isSignByte (j := 26) rfl) rfl c9 ?_
                    refine r_iload_n (dGet dX12_isSignByte (j := 27) rfl) rfl ?_
                    refine r_bipush (dGet dX12_isSignByte (j := 28) rfl) kB_58 ?_
                    by_cases c10 : v0 = (58 : Int32)
                    · rw [if_pos c10] at hf
                      refine r_icmp_eq_t (dGet dX12_isSignByte (j := 29) rfl) rfl c10 ?_
                      refine r_iconst (dGet dX12_isSignByte (j := 54) rfl) kI_1 ?_
                      refine r_goto (dGet dX12_isSignByte (j := 55) rfl) rfl ?_
                      have hq := Option.some.inj hf
                      subst hq
                      exact r_iret (dGet dX12_isSignByte (j := 57) rfl) rfl (by decide)
                    · rw [if_neg c10] at hf
                      refine r_icmp_eq_f (dGet dX12_isSignByte (j := 29) rfl) rfl c10 ?_
                      refine r_iload_n (dGet dX12_isSignByte (j := 30) rfl) rfl ?_
                      refine r_bipush (dGet dX12_isSignByte (j := 31) rfl) kB_61 ?_
                      by_cases c11 : v0 = (61 : Int32)
                      · rw [if_pos c11] at hf
                        refine r_icmp_eq_t (dGet dX12_isSignByte (j := 32) rfl) rfl c11 ?_
                        refine r_iconst (dGet dX12_isSignByte (j := 54) rfl) kI_1 ?_
                        refine r_goto (dGet dX12_isSignByte (j := 55) rfl) rfl ?_
                        have hq := Option.some.inj hf
                        subst hq
                        exact r_iret (dGet dX12_isSignByte (j := 57) rfl) rfl (by decide)
                      · rw [if_neg c11] at hf
                        refine r_icmp_eq_f (dGet dX12_isSignByte (j := 32) rfl) rfl c11 ?_
                        refine r_iload_n (dGet dX12_isSignByte (j := 33) rfl) rfl ?_
                        refine r_bipush (dGet dX12_isSignByte (j := 34) rfl) kB_60 ?_
                        by_cases c12 : v0 = (60 : Int32)
                        · rw [if_pos c12] at hf
                          refine r_icmp_eq_t (dGet dX12_isSignByte (j := 35) rfl) rfl c12 ?_
                          refine r_iconst (dGet dX12_isSignByte (j := 54) rfl) kI_1 ?_
                          refine r_goto (dGet dX12_isSignByte (j := 55) rfl) rfl ?_
                          have hq := Option.some.inj hf
                          subst hq
                          exact r_iret (dGet dX12_isSignByte (j := 57) rfl) rfl (by decide)
                        · rw [if_neg c12] at hf
                          refine r_icmp_eq_f (dGet dX12_isSignByte (j := 35) rfl) rfl c12 ?_
                          refine r_iload_n (dGet dX12_isSignByte (j := 36) rfl) rfl ?_
                          refine r_bipush (dGet dX12_isSignByte (j := 37) rfl) kB_43 ?_
                          by_cases c13 : v0 = (43 : Int32)
                          · rw [if_pos c13] at hf
                            refine r_icmp_eq_t (dGet dX12_isSignByte (j := 38) rfl) rfl c13 ?_
                            refine r_iconst (dGet dX12_isSignByte (j := 54) rfl) kI_1 ?_
                            refine r_goto (dGet dX12_isSignByte (j := 55) rfl) rfl ?_
                            have hq := Option.some.inj hf
                            subst hq
                            exact r_iret (dGet dX12_isSignByte (j := 57) rfl) rfl (by decide)
                          · rw [if_neg c13] at hf
                            refine r_icmp_eq_f (dGet dX12_isSignByte (j := 38) rfl) rfl c13 ?_
                            refine r_iload_n (dGet dX12_isSignByte (j := 39) rfl) rfl ?_
                            refine r_bipush (dGet dX12_isSignByte (j := 40) rfl) kB_45 ?_
                            by_cases c14 : v0 = (45 : Int32)
                            · rw [if_pos c14] at hf
                              refine r_icmp_eq_t (dGet dX12_isSignByte (j := 41) rfl) rfl c14 ?_
                              refine r_iconst (dGet dX12_isSignByte (j := 54) rfl) kI_1 ?_
                              refine r_goto (dGet dX12_isSignByte (j := 55) rfl) rfl ?_
                              have hq := Option.some.inj hf
                              subst hq
                              exact r_iret (dGet dX12_isSignByte (j := 57) rfl) rfl (by decide)
                            · rw [if_neg c14] at hf
                              refine r_icmp_eq_f (dGet dX12_isSignByte (j := 41) rfl) rfl c14 ?_
                              refine r_iload_n (dGet dX12_isSignByte (j := 42) rfl) rfl ?_
                              refine r_bipush (dGet dX12_isSignByte (j := 43) rfl) kB_42 ?_
                              by_cases c15 : v0 = (42 : Int32)
                              · rw [if_pos c15] at hf
                                refine r_icmp_eq_t (dGet dX12_isSignByte (j := 44) rfl) rfl c15 ?_
                                refine r_iconst (dGet dX12_isSignByte (j := 54) rfl) kI_1 ?_
                                refine r_goto (dGet dX12_isSignByte (j := 55) rfl) rfl ?_
                                have hq := Option.some.inj hf
                                subst hq
                                exact r_iret (dGet dX12_isSignByte (j := 57) rfl) rfl (by decide)
                              · rw [if_neg c15] at hf
                                refine r_icmp_eq_f (dGet dX12_isSignByte (j := 44) rfl) rfl c15 ?_
                                refine r_iload_n (dGet dX12_isSignByte (j := 45) rfl) rfl ?_
                                refine r_bipush (dGet dX12_isSignByte (j := 46) rfl) kB_47 ?_
                                by_cases c16 : v0 = (47 : Int32)
                                · rw [if_pos c16] at hf
                                  refine r_icmp_eq_t (dGet dX12_isSignByte (j := 47) rfl) rfl c16 ?_
                                  refine r_iconst (dGet dX12_isSignByte (j := 54) rfl) kI_1 ?_
                                  refine r_goto (dGet dX12_isSignByte (j := 55) rfl) rfl ?_
                                  have hq := Option.some.inj hf
                                  subst hq
                                  exact r_iret (dGet dX12_isSignByte (j := 57) rfl) rfl (by decide)
                                · rw [if_neg c16] at hf
                                  refine r_icmp_eq_f (dGet dX12_isSignByte (j := 47) rfl) rfl c16 ?_
                                  refine r_iload_n (dGet dX12_isSignByte (j := 48) rfl) rfl ?_
                                  refine r_bipush (dGet dX12_isSignByte (j := 49) rfl) kB_37 ?_
                                  by_cases c17 : v0 = (37 : Int32)
                                  · rw [if_pos c17] at hf
                                    refine r_icmp_eq_t (dGet dX12_isSignByte (j := 50) rfl) rfl c17 ?_
                                    refine r_iconst (dGet dX12_isSignByte (j := 54) rfl) kI_1 ?_
                                    refine r_goto (dGet dX12_isSignByte (j := 55) rfl) rfl ?_
                                    have hq := Option.some.inj hf
                                    subst hq
                                    exact r_iret (dGet dX12_isSignByte (j := 57) rfl) rfl (by decide)
                                  · rw [if_neg c17] at hf
                                    refine r_icmp_eq_f (dGet dX12_isSignByte (j := 50) rfl) rfl c17 ?_
                                    refine r_iload_n (dGet dX12_isSignByte (j := 51) rfl) rfl ?_
                                    refine r_bipush (dGet dX12_isSignByte (j := 52) rfl) kB_33 ?_
                                    by_cases c18 : v0 = (33 : Int32)
                                    · rw [if_pos c18] at hf
                                      refine r_icmp_ne_f (dGet dX12_isSignByte (j := 53) rfl) rfl c18 ?_
                                      refine r_iconst (dGet dX12_isSignByte (j := 54) rfl) kI_1 ?_
                                      refine r_goto (dGet dX12_isSignByte (j := 55) rfl) rfl ?_
                                      have hq := Option.some.inj hf
                                      subst hq
                                      exact r_iret (dGet dX12_isSignByte (j := 57) rfl) rfl (by decide)
                                    · rw [if_neg c18] at hf
                                      refine r_icmp_ne_t (dGet dX12_isSignByte (j := 53) rfl) rfl c18 ?_
                                      refine r_iconst (dGet dX12_isSignByte (j := 56) rfl) kI_0 ?_
                                      have hq := Option.some.inj hf
                                      subst hq
                                      exact r_iret (dGet dX12_isSignByte (j := 57) rfl) rfl (by decide)
def eX12_isText : List (Nat × Instr × Nat) := [(0, .iload_n 3, 1), (1, .ifCond .ne 7, 3), (4, .iconst 2, 1), (5, .goto 32, 3), (8, .iload 4, 2), (10, .ifCond .ne 7, 3), (13, .iconst 3, 1), (14, .goto 23, 3), (17, .iload 5, 2), (19, .ifCond .ne 7, 3), (22, .iconst 4, 1), (23, .goto 14, 3), (26, .iload 6, 2), (28, .ifCond .ne 7, 3), (31, .iconst 5, 1), (32, .goto 5, 3), (35, .bipush 6, 2), (37, .istore 7, 2), (39, .aload_n 0, 1), (40, .getfield 243, 3), (43, .iload 7, 2), (45, .if_icmp .eq 5, 3), (48, .iconst 0, 1), (49, .ireturn, 1), (50, .aload_n 0, 1), (51, .getfield 246, 3), (54, .istore 8, 2), (56, .aload_n 0, 1), (57, .getfield 13, 3), (60, .iload 8, 2), (62, .iaload, 1), (63, .iload_n 1, 1), (64, .if_icmp .ne 100, 3), (67, .aload_n 0, 1), (68, .getfield 13, 3), (71, .iload 8, 2), (73, .iconst 1, 1), (74, .iadd, 1), (75, .iaload, 1), (76, .iload_n 2, 1), (77, .if_icmp .ne 87, 3), (80, .iload 7, 2), (82, .iconst 3, 1), (83, .if_icmp .lt 16, 3), (86, .aload_n 0, 1), (87, .getfield 13, 3), (90, .iload 8, 2), (92, .iconst 2, 1), (93, .iadd, 1), (94, .iaload, 1), (95, .iload_n 3, 1), (96, .if_icmp .ne 68, 3), (99, .iload 7, 2), (101, .iconst 4, 1), (102, .if_icmp .lt 17, 3), (105, .aload_n 0, 1), (106, .getfield 13, 3), (109, .iload 8, 2), (111, .iconst 3, 1), (112, .iadd, 1), (113, .iaload, 1), (114, .iload 4, 2), (116, .if_icmp .ne 48, 3), (119, .iload 7, 2), (121, .iconst 5, 1), (122, .if_icmp .lt 17, 3), (125, .aload_n 0, 1), (126, .getfield 13, 3), (129, .iload 8, 2), (131, .iconst 4, 1), (132, .iadd, 1), (133, .iaload, 1), (134, .iload 5, 2), (136, .if_icmp .ne 28, 3), (139, .iload 7, 2), (141, .bipush 6, 2), (143, .if_icmp .lt 17, 3), (146, .aload_n 0, 1), (147, .getfield 13, 3), (150, .iload 8, 2), (152, .iconst 5, 1), (153, .iadd, 1), (154, .iaload, 1), (155, .iload 6, 2), (157, .if_icmp .ne 7, 3), (160, .iconst 1, 1), (161, .goto 4, 3), (164, .iconst 0, 1), (165, .ireturn, 1)]
theorem dX12_isText : dChk (pCd 8140) eX12_isText = true := by decide +kernel
def fX12_isText_139 (N : Nat) (v0 : Nat) (v6 : Int32) (v7 : Int32) (v8 : Int32) (h : pH) : Option (Int32 × pH) :=
  if v7 < (6 : Int32) then (
  some ((1 : Int32), h)) else (
  (getR h v0 12 2).bind fun t2 =>
  (ldI h t2 (v8 + (5 : Int32))).bind fun t3 =>
  if t3 = v6 then (
  some ((1 : Int32), h)) else (
  some ((0 : Int32), h)))
theorem lX12_isText_139 (X : pX) (N d : Nat)  (v0 : Nat) (v6 : Int32) (v7 : Int32) (v8 : Int32) (h : pH) (q : Int32 × pH) (hf : fX12_isText_139 N v0 v6 v7 v8 h = some q) (nv0 : ¬ v0 = 4) : Run X (d + 0) 12 false (pCd 8140) 9 (some .boolean) 139 [(0, .ref v0), (6, .int v6), (7, .int v7), (8, .int v8)] [] h 0 0 (some (.int q.1), q.2, 0, 0) := by
  unfold fX12_isText_139 at hf
  refine r_iload (dGet dX12_isText (j := 74) rfl) rfl ?_
  refine r_bipush (dGet dX12_isText (j := 75) rfl) kB_6 ?_
  by_cases c1 : v7 < (6 : Int32)
  · rw [if_pos c1] at hf
    refine r_icmp_lt_t (dGet dX12_isText (j := 76) rfl) rfl c1 ?_
    refine r_iconst (dGet dX12_isText (j := 85) rfl) kI_1 ?_
    refine r_goto (dGet dX12_isText (j := 86) rfl) rfl ?_
    have hq := Option.some.inj hf
    subst hq
    exact r_iret (dGet dX12_isText (j := 88) rfl) rfl (by decide)
  · rw [if_neg c1] at hf
    refine r_icmp_lt_f (dGet dX12_isText (j := 76) rfl) rfl c1 ?_
    refine r_aload_n (dGet dX12_isText (j := 77) rfl) nv0 rfl ?_
    obtain ⟨t2, et2, hf⟩ := Option.bind_eq_some_iff.mp hf
    refine r_getR (dGet dX12_isText (j := 78) rfl) F12_13 et2 ?_
    refine r_iload (dGet dX12_isText (j := 79) rfl) rfl ?_
    refine r_iconst (dGet dX12_isText (j := 80) rfl) kI_5 ?_
    refine r_iadd (dGet dX12_isText (j := 81) rfl) ?_
    obtain ⟨t3, et3, hf⟩ := Option.bind_eq_some_iff.mp hf
    refine r_iald (dGet dX12_isText (j := 82) rfl) et3 ?_
    refine r_iload (dGet dX12_isText (j := 83) rfl) rfl ?_
    by_cases c4 : t3 = v6
    · rw [if_pos c4] at hf
      refine r_icmp_ne_f (dGet dX12_isText (j := 84) rfl) rfl c4 ?_
      refine r_iconst (dGet dX12_isText (j := 85) rfl) kI_1 ?_
      refine r_goto (dGet dX12_isText (j := 86) rfl) rfl ?_
      have hq := Option.some.inj hf
      subst hq
      exact r_iret (dGet dX12_isText (j := 88) rfl) rfl (by decide)
    · rw [if_neg c4] at hf
      refine r_icmp_ne_t (dGet dX12_isText (j := 84) rfl) rfl c4 ?_
      refine r_iconst (dGet dX12_isText (j := 87) rfl) kI_0 ?_
      have hq := Option.some.inj hf
      subst hq
      exact r_iret (dGet dX12_isText (j := 88) rfl) rfl (by decide)
def fX12_isText_119 (N : Nat) (v0 : Nat) (v5 : Int32) (v6 : Int32) (v7 : Int32) (v8 : Int32) (h : pH) : Option (Int32 × pH) :=
  if v7 < (5 : Int32) then (
  fX12_isText_139 N v0 v6 v7 v8 h) else (
  (getR h v0 12 2).bind fun t6 =>
  (ldI h t6 (v8 + (4 : Int32))).bind fun t7 =>
  if t7 = v5 then (
  fX12_isText_139 N v0 v6 v7 v8 h) else (
  some ((0 : Int32), h)))
theorem lX12_isText_119 (X : pX) (N d : Nat)  (v0 : Nat) (v5 : Int32) (v6 : Int32) (v7 : Int32) (v8 : Int32) (h : pH) (q : Int32 × pH) (hf : fX12_isText_119 N v0 v5 v6 v7 v8 h = some q) (nv0 : ¬ v0 = 4) : Run X (d + 0) 12 false (pCd 8140) 9 (some .boolean) 119 [(0, .ref v0), (5, .int v5), (6, .int v6), (7, .int v7), (8, .int v8)] [] h 0 0 (some (.int q.1), q.2, 0, 0) := by
  unfold fX12_isText_119 at hf
  refine r_iload (dGet dX12_isText (j := 63) rfl) rfl ?_
  refine r_iconst (dGet dX12_isText (j := 64) rfl) kI_5 ?_
  by_cases c5 : v7 < (5 : Int32)
  · rw [if_pos c5] at hf
    refine r_icmp_lt_t (dGet dX12_isText (j := 65) rfl) rfl c5 ?_
    refine Run.weak [(0, .ref v0), (6, .int v6), (7, .int v7), (8, .int v8)] (by simp) (by simp [pNd]) ?_
    exact lX12_isText_139 X N d v0 v6 v7 v8 h q hf nv0
  · rw [if_neg c5] at hf
    refine r_icmp_lt_f (dGet dX12_isText (j := 65) rfl) rfl c5 ?_
    refine r_aload_n (dGet dX12_isText (j := 66) rfl) nv0 rfl ?_
    obtain ⟨t6, et6, hf⟩ := Option.bind_eq_some_iff.mp hf
    refine r_getR (dGet dX12_isText (j := 67) rfl) F12_13 et6 ?_
    refine r_iload (dGet dX12_isText (j := 68) rfl) rfl ?_
    refine r_iconst (dGet dX12_isText (j := 69) rfl) kI_4 ?_
    refine r_iadd (dGet dX12_isText (j := 70) rfl) ?_
    obtain ⟨t7, et7, hf⟩ := Option.bind_eq_some_iff.mp hf
    refine r_iald (dGet dX12_isText (j := 71) rfl) et7 ?_
    refine r_iload (dGet dX12_isText (j := 72) rfl) rfl ?_
    by_cases c8 : t7 = v5
    · rw [if_pos c8] at hf
      refine r_icmp_ne_f (dGet dX12_isText (j := 73) rfl) rfl c8 ?_
      refine Run.weak [(0, .ref v0), (6, .int v6), (7, .int v7), (8, .int v8)] (by simp) (by simp [pNd]) ?_
      exact lX12_isText_139 X N d v0 v6 v7 v8 h q hf nv0
    · rw [if_neg c8] at hf
      refine r_icmp_ne_t (dGet dX12_isText (j := 73) rfl) rfl c8 ?_
      refine r_iconst (dGet dX12_isText (j := 87) rfl) kI_0 ?_
      have hq := Option.some.inj hf
      subst hq
      exact r_iret (dGet dX12_isText (j := 88) rfl) rfl (by decide)
def fX12_isText_99 (N : Nat) (v0 : Nat) (v4 : Int32) (v5 : Int32) (v6 : Int32) (v7 : Int32) (v8 : Int32) (h : pH) : Option (Int32 × pH) :=
  if v7 < (4 : Int32) then (
  fX12_isText_119 N v0 v5 v6 v7 v8 h) else (
  (getR h v0 12 2).bind fun t10 =>
  (ldI h t10 (v8 + (3 : Int32))).bind fun t11 =>
  if t11 = v4 then (
  fX12_isText_119 N v0 v5 v6 v7 v8 h) else (
  some ((0 : Int32), h)))
theorem lX12_isText_99 (X : pX) (N d : Nat)  (v0 : Nat) (v4 : Int32) (v5 : Int32) (v6 : Int32) (v7 : Int32) (v8 : Int32) (h : pH) (q : Int32 × pH) (hf : fX12_isText_99 N v0 v4 v5 v6 v7 v8 h = some q) (nv0 : ¬ v0 = 4) : Run X (d + 0) 12 false (pCd 8140) 9 (some .boolean) 99 [(0, .ref v0), (4, .int v4), (5, .int v5), (6, .int v6), (7, .int v7), (8, .int v8)] [] h 0 0 (some (.int q.1), q.2, 0, 0) := by
  unfold fX12_isText_99 at hf
  refine r_iload (dGet dX12_isText (j := 52) rfl) rfl ?_
  refine r_iconst (dGet dX12_isText (j := 53) rfl) kI_4 ?_
  by_cases c9 : v7 < (4 : Int32)
  · rw [if_pos c9] at hf
    refine r_icmp_lt_t (dGet dX12_isText (j := 54) rfl) rfl c9 ?_
    refine Run.weak [(0, .ref v0), (5, .int v5), (6, .int v6), (7, .int v7), (8, .int v8)] (by simp) (by simp [pNd]) ?_
    exact lX12_isText_119 X N d v0 v5 v6 v7 v8 h q hf nv0
  · rw [if_neg c9] at hf
    refine r_icmp_lt_f (dGet dX12_isText (j := 54) rfl) rfl c9 ?_
    refine r_aload_n (dGet dX12_isText (j := 55) rfl) nv0 rfl ?_
    obtain ⟨t10, et10, hf⟩ := Option.bind_eq_some_iff.mp hf
    refine r_getR (dGet dX12_isText (j := 56) rfl) F12_13 et10 ?_
    refine r_iload (dGet dX12_isText (j := 57) rfl) rfl ?_
    refine r_iconst (dGet dX12_isText (j := 58) rfl) kI_3 ?_
    refine r_iadd (dGet dX12_isText (j := 59) rfl) ?_
    obtain ⟨t11, et11, hf⟩ := Option.bind_eq_some_iff.mp hf
    refine r_iald (dGet dX12_isText (j := 60) rfl) et11 ?_
    refine r_iload (dGet dX12_isText (j := 61) rfl) rfl ?_
    by_cases c12 : t11 = v4
    · rw [if_pos c12] at hf
      refine r_icmp_ne_f (dGet dX12_isText (j := 62) rfl) rfl c12 ?_
      refine Run.weak [(0, .ref v0), (5, .int v5), (6, .int v6), (7, .int v7), (8, .int v8)] (by simp) (by simp [pNd]) ?_
      exact lX12_isText_119 X N d v0 v5 v6 v7 v8 h q hf nv0
    · rw [if_neg c12] at hf
      refine r_icmp_ne_t (dGet dX12_isText (j := 62) rfl) rfl c12 ?_
      refine r_iconst (dGet dX12_isText (j := 87) rfl) kI_0 ?_
      have hq := Option.some.inj hf
      subst hq
      exact r_iret (dGet dX12_isText (j := 88) rfl) rfl (by decide)
def fX12_isText_37 (N : Nat) (v0 : Nat) (v1 : Int32) (v2 : Int32) (v3 : Int32) (v4 : Int32) (v5 : Int32) (v6 : Int32) (s0 : Int32) (h : pH) : Option (Int32 × pH) :=
  (getI h v0 12 7).bind fun t13 =>
  if t13 = s0 then (
  (getI h v0 12 6).bind fun t15 =>
  (getR h v0 12 2).bind fun t16 =>
  (ldI h t16 t15).bind fun t17 =>
  if t17 = v1 then (
  (getR h v0 12 2).bind fun t19 =>
  (ldI h t19 (t15 + (1 : Int32))).bind fun t20 =>
  if t20 = v2 then (
  if s0 < (3 : Int32) then (
  fX12_isText_99 N v0 v4 v5 v6 s0 t15 h) else (
  (getR h v0 12 2).bind fun t23 =>
  (ldI h t23 (t15 + (2 : Int32))).bind fun t24 =>
  if t24 = v3 then (
  fX12_isText_99 N v0 v4 v5 v6 s0 t15 h) else (
  some ((0 : Int32), h)))) else (
  some ((0 : Int32), h))) else (
  some ((0 : Int32), h))) else (
  some ((0 : Int32), h))
theorem lX12_isText_37 (X : pX) (N d : Nat)  (v0 : Nat) (v1 : Int32) (v2 : Int32) (v3 : Int32) (v4 : Int32) (v5 : Int32) (v6 : Int32) (s0 : Int32) (h : pH) (q : Int32 × pH) (hf : fX12_isText_37 N v0 v1 v2 v3 v4 v5 v6 s0 h = some q) (nv0 : ¬ v0 = 4) : Run X (d + 0) 12 false (pCd 8140) 9 (some .boolean) 37 [(0, .ref v0), (1, .int v1), (2, .int v2), (3, .int v3), (4, .int v4), (5, .int v5), (6, .int v6)] [.int s0] h 0 0 (some (.int q.1), q.2, 0, 0) := by
  unfold fX12_isText_37 at hf
  refine r_istore (lv' := [(7, .int s0), (0, .ref v0), (1, .int v1), (2, .int v2), (3, .int v3), (4, .int v4), (5, .int v5), (6, .int v6)]) (dGet dX12_isText (j := 17) rfl) (by decide) rfl ?_
  refine r_aload_n (dGet dX12_isText (j := 18) rfl) nv0 rfl ?_
  obtain ⟨t13, et13, hf⟩ := Option.bind_eq_some_iff.mp hf
  refine r_getI (dGet dX12_isText (j := 19) rfl) F12_243 et13 ?_
  refine r_iload (dGet dX12_isText (j := 20) rfl) rfl ?_
  by_cases c14 : t13 = s0
  · rw [if_pos c14] at hf
    refine r_icmp_eq_t (dGet dX12_isText (j := 21) rfl) rfl c14 ?_
    refine r_aload_n (dGet dX12_isText (j := 24) rfl) nv0 rfl ?_
    obtain ⟨t15, et15, hf⟩ := Option.bind_eq_some_iff.mp hf
    refine r_getI (dGet dX12_isText (j := 25) rfl) F12_246 et15 ?_
    refine r_istore (lv' := [(8, .int t15), (7, .int s0), (0, .ref v0), (1, .int v1), (2, .int v2), (3, .int v3), (4, .int v4), (5, .int v5), (6, .int v6)]) (dGet dX12_isText (j := 26) rfl) (by decide) rfl ?_
    refine r_aload_n (dGet dX12_isText (j := 27) rfl) nv0 rfl ?_
    obtain ⟨t16, et16, hf⟩ := Option.bind_eq_some_iff.mp hf
    refine r_getR (dGet dX12_isText (j := 28) rfl) F12_13 et16 ?_
    refine r_iload (dGet dX12_isText (j := 29) rfl) rfl ?_
    obtain ⟨t17, et17, hf⟩ := Option.bind_eq_some_iff.mp hf
    refine r_iald (dGet dX12_isText (j := 30) rfl) et17 ?_
    refine r_iload_n (dGet dX12_isText (j := 31) rfl) rfl ?_
    by_cases c18 : t17 = v1
    · rw [if_pos c18] at hf
      refine r_icmp_ne_f (dGet dX12_isText (j := 32) rfl) rfl c18 ?_
      refine r_aload_n (dGet dX12_isText (j := 33) rfl) nv0 rfl ?_
      obtain ⟨t19, et19, hf⟩ := Option.bind_eq_some_iff.mp hf
      refine r_getR (dGet dX12_isText (j := 34) rfl) F12_13 et19 ?_
      refine r_iload (dGet dX12_isText (j := 35) rfl) rfl ?_
      refine r_iconst (dGet dX12_isText (j := 36) rfl) kI_1 ?_
      refine r_iadd (dGet dX12_isText (j := 37) rfl) ?_
      obtain ⟨t20, et20, hf⟩ := Option.bind_eq_some_iff.mp hf
      refine r_iald (dGet dX12_isText (j := 38) rfl) et20 ?_
      refine r_iload_n (dGet dX12_isText (j := 39) rfl) rfl ?_
      by_cases c21 : t20 = v2
      · rw [if_pos c21] at hf
        refine r_icmp_ne_f (dGet dX12_isText (j := 40) rfl) rfl c21 ?_
        refine r_iload (dGet dX12_isText (j := 41) rfl) rfl ?_
        refine r_iconst (dGet dX12_isText (j := 42) rfl) kI_3 ?_
        by_cases c22 : s0 < (3 : Int32)
        · rw [if_pos c22] at hf
          refine r_icmp_lt_t (dGet dX12_isText (j := 43) rfl) rfl c22 ?_
          refine Run.weak [(0, .ref v0), (4, .int v4), (5, .int v5), (6, .int v6), (7, .int s0), (8, .int t15)] (by simp) (by simp [pNd]) ?_
          exact lX12_isText_99 X N d v0 v4 v5 v6 s0 t15 h q hf nv0
        · rw [if_neg c22] at hf
          refine r_icmp_lt_f (dGet dX12_isText (j := 43) rfl) rfl c22 ?_
          refine r_aload_n (dGet dX12_isText (j := 44) rfl) nv0 rfl ?_
          obtain ⟨t23, et23, hf⟩ := Option.bind_eq_some_iff.mp hf
          refine r_getR (dGet dX12_isText (j := 45) rfl) F12_13 et23 ?_
          refine r_iload (dGet dX12_isText (j := 46) rfl) rfl ?_
          refine r_iconst (dGet dX12_isText (j := 47) rfl) kI_2 ?_
          refine r_iadd (dGet dX12_isText (j := 48) rfl) ?_
          obtain ⟨t24, et24, hf⟩ := Option.bind_eq_some_iff.mp hf
          refine r_iald (dGet dX12_isText (j := 49) rfl) et24 ?_
          refine r_iload_n (dGet dX12_isText (j := 50) rfl) rfl ?_
          by_cases c25 : t24 = v3
          · rw [if_pos c25] at hf
            refine r_icmp_ne_f (dGet dX12_isText (j := 51) rfl) rfl c25 ?_
            refine Run.weak [(0, .ref v0), (4, .int v4), (5, .int v5), (6, .int v6), (7, .int s0), (8, .int t15)] (by simp) (by simp [pNd]) ?_
            exact lX12_isText_99 X N d v0 v4 v5 v6 s0 t15 h q hf nv0
          · rw [if_neg c25] at hf
            refine r_icmp_ne_t (dGet dX12_isText (j := 51) rfl) rfl c25 ?_
            refine r_iconst (dGet dX12_isText (j := 87) rfl) kI_0 ?_
            have hq := Option.some.inj hf
            subst hq
            exact r_iret (dGet dX12_isText (j := 88) rfl) rfl (by decide)
      · rw [if_neg c21] at hf
        refine r_icmp_ne_t (dGet dX12_isText (j := 40) rfl) rfl c21 ?_
        refine r_iconst (dGet dX12_isText (j := 87) rfl) kI_0 ?_
        have hq := Option.some.inj hf
        subst hq
        exact r_iret (dGet dX12_isText (j := 88) rfl) rfl (by decide)
    · rw [if_neg c18] at hf
      refine r_icmp_ne_t (dGet dX12_isText (j := 32) rfl) rfl c18 ?_
      refine r_iconst (dGet dX12_isText (j := 87) rfl) kI_0 ?_
      have hq := Option.some.inj hf
      subst hq
      exact r_iret (dGet dX12_isText (j := 88) rfl) rfl (by decide)
  · rw [if_neg c14] at hf
    refine r_icmp_eq_f (dGet dX12_isText (j := 21) rfl) rfl c14 ?_
    refine r_iconst (dGet dX12_isText (j := 22) rfl) kI_0 ?_
    have hq := Option.some.inj hf
    subst hq
    exact r_iret (dGet dX12_isText (j := 23) rfl) rfl (by decide)
def fX12_isText (N : Nat) (v0 : Nat) (v1 : Int32) (v2 : Int32) (v3 : Int32) (v4 : Int32) (v5 : Int32) (v6 : Int32) (h : pH) : Option (Int32 × pH) := if isO h v0 12 = true then (
  if v3 = 0 then (
  fX12_isText_37 N v0 v1 v2 v3 v4 v5 v6 (2 : Int32) h) else (
  if v4 = 0 then (
  fX12_isText_37 N v0 v1 v2 v3 v4 v5 v6 (3 : Int32) h) else (
  if v5 = 0 then (
  fX12_isText_37 N v0 v1 v2 v3 v4 v5 v6 (4 : Int32) h) else (
  if v6 = 0 then (
  fX12_isText_37 N v0 v1 v2 v3 v4 v5 v6 (5 : Int32) h) else (
  fX12_isText_37 N v0 v1 v2 v3 v4 v5 v6 (6 : Int32) h))))) else none
theorem oX12_isText {N : Nat} {v0 : Nat} {v1 : Int32} {v2 : Int32} {v3 : Int32} {v4 : Int32} {v5 : Int32} {v6 : Int32} {h : pH} {q : Int32 × pH} (hf : fX12_isText N v0 v1 v2 v3 v4 v5 v6 h = some q) : isO h v0 12 = true := by
  unfold fX12_isText at hf
  by_cases hc : isO h v0 12 = true
  · exact hc
  · rw [if_neg hc] at hf; cases hf
theorem cX12_isText (X : pX) (N d : Nat) (v0 : Nat) (v1 : Int32) (v2 : Int32) (v3 : Int32) (v4 : Int32) (v5 : Int32) (v6 : Int32) (h : pH) (q : Int32 × pH) (hf : fX12_isText N v0 v1 v2 v3 v4 v5 v6 h = some q) : Calls X (d + 0) 239 [.ref v0, .int v1, .int v2, .int v3, .int v4, .int v5, .int v6] h (some (.int q.1), q.2, 0, 0) := by
  refine Calls.of M239 (Nat.le_of_ble_eq_true rfl) ?_
  show Run X (d + 0) 12 false (pCd 8140) 9 (some .boolean) 0 [(0, .ref v0), (1, .int v1), (2, .int v2), (3, .int v3), (4, .int v4), (5, .int v5), (6, .int v6)] [] h 0 0 (some (.int q.1), q.2, 0, 0)
  unfold fX12_isText at hf
  by_cases hc : isO h v0 12 = true
  · rw [if_pos hc] at hf
    have nv0 : ¬ v0 = 4 := isO_ne hc
    refine r_iload_n (dGet dX12_isText (j := 0) rfl) rfl ?_
    by_cases c26 : v3 = 0
    · rw [if_pos c26] at hf
      refine r_if_ne_f (dGet dX12_isText (j := 1) rfl) rfl c26 ?_
      refine r_iconst (dGet dX12_isText (j := 2) rfl) kI_2 ?_
      refine r_goto (dGet dX12_isText (j := 3) rfl) rfl ?_
      exact lX12_isText_37 X N d v0 v1 v2 v3 v4 v5 v6 (2 : Int32) h q hf nv0
    · rw [if_neg c26] at hf
      refine r_if_ne_t (dGet dX12_isText (j := 1) rfl) rfl c26 ?_
      refine r_iload (dGet dX12_isText (j := 4) rfl) rfl ?_
      by_cases c27 : v4 = 0
      · rw [if_pos c27] at hf
        refine r_if_ne_f (dGet dX12_isText (j := 5) rfl) rfl c27 ?_
        refine r_iconst (dGet dX12_isText (j := 6) rfl) kI_3 ?_
        refine r_goto (dGet dX12_isText (j := 7) rfl) rfl ?_
        exact lX12_isText_37 X N d v0 v1 v2 v3 v4 v5 v6 (3 : Int32) h q hf nv0
      · rw [if_neg c27] at hf
        refine r_if_ne_t (dGet dX12_isText (j := 5) rfl) rfl c27 ?_
        refine r_iload (dGet dX12_isText (j := 8) rfl) rfl ?_
        by_cases c28 : v5 = 0
        · rw [if_pos c28] at hf
          refine r_if_ne_f (dGet dX12_isText (j := 9) rfl) rfl c28 ?_
          refine r_iconst (dGet dX12_isText (j := 10) rfl) kI_4 ?_
          refine r_goto (dGet dX12_isText (j := 11) rfl) rfl ?_
          exact lX12_isText_37 X N d v0 v1 v2 v3 v4 v5 v6 (4 : Int32) h q hf nv0
        · rw [if_neg c28] at hf
          refine r_if_ne_t (dGet dX12_isText (j := 9) rfl) rfl c28 ?_
          refine r_iload (dGet dX12_isText (j := 12) rfl) rfl ?_
          by_cases c29 : v6 = 0
          · rw [if_pos c29] at hf
            refine r_if_ne_f (dGet dX12_isText (j := 13) rfl) rfl c29 ?_
            refine r_iconst (dGet dX12_isText (j := 14) rfl) kI_5 ?_
            refine r_goto (dGet dX12_isText (j := 15) rfl) rfl ?_
            exact lX12_isText_37 X N d v0 v1 v2 v3 v4 v5 v6 (5 : Int32) h q hf nv0
          · rw [if_neg c29] at hf
            refine r_if_ne_t (dGet dX12_isText (j := 13) rfl) rfl c29 ?_
            refine r_bipush (dGet dX12_isText (j := 16) rfl) kB_6 ?_
            exact lX12_isText_37 X N d v0 v1 v2 v3 v4 v5 v6 (6 : Int32) h q hf nv0
  · rw [if_neg hc] at hf; cases hf
def eX12_keyOf : List (Nat × Instr × Nat) := [(0, .aload_n 0, 1), (1, .bipush 99, 2), (3, .bipush 108, 2), (5, .bipush 97, 2), (7, .bipush 115, 2), (9, .bipush 115, 2), (11, .iconst 0, 1), (12, .invokevirtual 249, 3), (15, .ifCond .eq 5, 3), (18, .iconst 1, 1), (19, .ireturn, 1), (20, .aload_n 0, 1), (21, .bipush 105, 2), (23, .bipush 110, 2), (25, .bipush 116, 2), (27, .iconst 0, 1), (28, .iconst 0, 1), (29, .iconst 0, 1), (30, .invokevirtual 249, 3), (33, .ifCond .eq 5, 3), (36, .iconst 2, 1), (37, .ireturn, 1), (38, .aload_n 0, 1), (39, .bipush 98, 2), (41, .bipush 111, 2), (43, .bipush 111, 2), (45, .bipush 108, 2), (47, .iconst 0, 1), (48, .iconst 0, 1), (49, .invokevirtual 249, 3), (52, .ifCond .eq 5, 3), (55, .iconst 3, 1), (56, .ireturn, 1), (57, .aload_n 0, 1), (58, .bipush 105, 2), (60, .bipush 110, 2), (62, .bipush 116, 2), (64, .bipush 115, 2), (66, .iconst 0, 1), (67, .iconst 0, 1), (68, .invokevirtual 249, 3), (71, .ifCond .eq 5, 3), (74, .iconst 4, 1), (75, .ireturn, 1), (76, .aload_n 0, 1), (77, .bipush 118, 2), (79, .bipush 111, 2), (81, .bipush 105, 2), (83, .bipush 100, 2), (85, .iconst 0, 1), (86, .iconst 0, 1), (87, .invokevirtual 249, 3), (90, .ifCond .eq 5, 3), (93, .iconst 5, 1), (94, .ireturn, 1), (95, .aload_n 0, 1), (96, .bipush 105, 2), (98, .bipush 102, 2), (100, .iconst 0, 1), (101, .iconst 0, 1), (102, .iconst 0, 1), (103, .iconst 0, 1), (104, .invokevirtual 249, 3), (107, .ifCond .eq 6, 3), (110, .bipush 6, 2), (112, .ireturn, 1), (113, .aload_n 0, 1), (114, .bipush 101, 2), (116, .bipush 108, 2), (118, .bipush 115, 2), (120, .bipush 101, 2), (122, .iconst 0, 1), (123, .iconst 0, 1), (124, .invokevirtual 249, 3), (127, .ifCond .eq 6, 3), (130, .bipush 7, 2), (132, .ireturn, 1), (133, .aload_n 0, 1), (134, .bipush 119, 2), (136, .bipush 104, 2), (138, .bipush 105, 2), (140, .bipush 108, 2), (142, .bipush 101, 2), (144, .iconst 0, 1), (145, .invokevirtual 249, 3), (148, .ifCond .eq 6, 3), (151, .bipush 8, 2), (153, .ireturn, 1), (154, .aload_n 0, 1), (155, .bipush 114, 2), (157, .bipush 101, 2), (159, .bipush 116, 2), (161, .bipush 117, 2), (163, .bipush 114, 2), (165, .bipush 110, 2), (167, .invokevirtual 249, 3), (170, .ifCond .eq 6, 3), (173, .bipush 9, 2), (175, .ireturn, 1), (176, .aload_n 0, 1), (177, .bipush 116, 2), (179, .bipush 104, 2), (181, .bipush 114, 2), (183, .bipush 111, 2), (185, .bipush 119, 2), (187, .iconst 0, 1), (188, .invokevirtual 249, 3), (191, .ifCond .eq 6, 3), (194, .bipush 10, 2), (196, .ireturn, 1), (197, .aload_n 0, 1), (198, .bipush 116, 2), (200, .bipush 114, 2), (202, .bipush 121, 2), (204, .iconst 0, 1), (205, .iconst 0, 1), (206, .iconst 0, 1), (207, .invokevirtual 249, 3), (210, .ifCond .eq 6, 3), (213, .bipush 11, 2), (215, .ireturn, 1), (216, .aload_n 0, 1), (217, .bipush 99, 2), (219, .bipush 97, 2), (221, .bipush 116, 2), (223, .bipush 99, 2), (225, .bipush 104, 2), (227, .iconst 0, 1), (228, .invokevirtual 249, 3), (231, .ifCond .eq 6, 3), (234, .bipush 12, 2), (236, .ireturn, 1), (237, .aload_n 0, 1), (238, .bipush 112, 2), (240, .bipush 114, 2), (242, .bipush 105, 2), (244, .bipush 110, 2), (246, .bipush 116, 2), (248, .iconst 0, 1), (249, .invokevirtual 249, 3), (252, .ifCond .eq 6, 3), (255, .bipush 13, 2), (257, .ireturn, 1), (258, .aload_n 0, 1), (259, .bipush 110, 2), (261, .bipush 101, 2), (263, .bipush 119, 2), (265, .iconst 0, 1), (266, .iconst 0, 1), (267, .iconst 0, 1), (268, .invokevirtual 249, 3), (271, .ifCond .eq 6, 3), (274, .bipush 14, 2), (276, .ireturn, 1), (277, .aload_n 0, 1), (278, .bipush 110, 2), (280, .bipush 117, 2), (282, .bipush 108, 2), (284, .bipush 108, 2), (286, .iconst 0, 1), (287, .iconst 0, 1), (288, .invokevirtual 249, 3), (291, .ifCond .eq 6, 3), (294, .bipush 15, 2), (296, .ireturn, 1), (297, .aload_n 0, 1), (298, .bipush 116, 2), (300, .bipush 114, 2), (302, .bipush 117, 2), (304, .bipush 101, 2), (306, .iconst 0, 1), (307, .iconst 0, 1), (308, .invokevirtual 249, 3), (311, .ifCond .eq 6, 3), (314, .bipush 16, 2), (316, .ireturn, 1), (317, .aload_n 0, 1), (318, .bipush 102, 2), (320, .bipush 97, 2), (322, .bipush 108, 2), (324, .bipush 115, 2), (326, .bipush 101, 2), (328, .iconst 0, 1), (329, .invokevirtual 249, 3), (332, .ifCond .eq 6, 3), (335, .bipush 17, 2), (337, .ireturn, 1), (338, .aload_n 0, 1), (339, .bipush 116, 2), (341, .bipush 104, 2), (343, .bipush 105, 2), (345, .bipush 115, 2), (347, .iconst 0, 1), (348, .iconst 0, 1), (349, .invokevirtual 249, 3), (352, .ifCond .eq 6, 3), (355, .bipush 18, 2), (357, .ireturn, 1), (358, .aload_n 0, 1), (359, .bipush 114, 2), (361, .bipush 101, 2), (363, .bipush 97, 2), (365, .bipush 100, 2), (367, .iconst 0, 1), (368, .iconst 0, 1), (369, .invokevirtual 249, 3), (372, .ifCond .eq 6, 3), (375, .bipush 19, 2), (377, .ireturn, 1), (378, .aload_n 0, 1), (379, .bipush 97, 2), (381, .bipush 115, 2), (383, .iconst 0, 1), (384, .iconst 0, 1), (385, .iconst 0, 1), (386, .iconst 0, 1), (387, .invokevirtual 249, 3), (390, .ifCond .eq 6, 3), (393, .bipush 20, 2), (395, .ireturn, 1), (396, .aload_n 0, 1), (397, .bipush 105, 2), (399, .bipush 115, 2), (401, .iconst 0, 1), (402, .iconst 0, 1), (403, .iconst 0, 1), (404, .iconst 0, 1), (405, .invokevirtual 249, 3), (408, .ifCond .eq 8, 3), (411, .bipush 21, 2), (413, .goto 4, 3), (416, .iconst 0, 1), (417, .ireturn, 1)]
theorem dX12_keyOf : dChk (pCd 8136) eX12_keyOf = true := by decide +kernel
def fX12_keyOf (N : Nat) (v0 : Nat) (h : pH) : Option (Int32 × pH) := if isO h v0 12 = true then (
  (fX12_isText N v0 (99 : Int32) (108 : Int32) (97 : Int32) (115 : Int32) (115 : Int32) (0 : Int32) h).bind fun q1 =>
  if q1.1 = 0 then (
  (fX12_isText N v0 (105 : Int32) (110 : Int32) (116 : Int32) (0 : Int32) (0 : Int32) (0 : Int32) q1.2).bind fun q3 =>
  if q3.1 = 0 then (
  (fX12_isText N v0 (98 : Int32) (111 : Int32) (111 : Int32) (108 : Int32) (0 : Int32) (0 : Int32) q3.2).bind fun q5 =>
  if q5.1 = 0 then (
  (fX12_isText N v0 (105 : Int32) (110 : Int32) (116 : Int32) (115 : Int32) (0 : Int32) (0 : Int32) q5.2).bind fun q7 =>
  if q7.1 = 0 then (
  (fX12_isText N v0 (118 : Int32) (111 : Int32) (105 : Int32) (100 : Int32) (0 : Int32) (0 : Int32) q7.2).bind fun q9 =>
  if q9.1 = 0 then (
  (fX12_isText N v0 (105 : Int32) (102 : Int32) (0 : Int32) (0 : Int32) (0 : Int32) (0 : Int32) q9.2).bind fun q11 =>
  if q11.1 = 0 then (
  (fX12_isText N v0 (101 : Int32) (108 : Int32) (115 : Int32) (101 : Int32) (0 : Int32) (0 : Int32) q11.2).bind fun q13 =>
  if q13.1 = 0 then (
  (fX12_isText N v0 (119 : Int32) (104 : Int32) (105 : Int32) (108 : Int32) (101 : Int32) (0 : Int32) q13.2).bind fun q15 =>
  if q15.1 = 0 then (
  (fX12_isText N v0 (114 : Int32) (101 : Int32) (116 : Int32) (117 : Int32) (114 : Int32) (110 : Int32) q15.2).bind fun q17 =>
  if q17.1 = 0 then (
  (fX12_isText N v0 (116 : Int32) (104 : Int32) (114 : Int32) (111 : Int32) (119 : Int32) (0 : Int32) q17.2).bind fun q19 =>
  if q19.1 = 0 then (
  (fX12_isText N v0 (116 : Int32) (114 : Int32) (121 : Int32) (0 : Int32) (0 : Int32) (0 : Int32) q19.2).bind fun q21 =>
  if q21.1 = 0 then (
  (fX12_isText N v0 (99 : Int32) (97 : Int32) (116 : Int32) (99 : Int32) (104 : Int32) (0 : Int32) q21.2).bind fun q23 =>
  if q23.1 = 0 then (
  (fX12_isText N v0 (112 : Int32) (114 : Int32) (105 : Int32) (110 : Int32) (116 : Int32) (0 : Int32) q23.2).bind fun q25 =>
  if q25.1 = 0 then (
  (fX12_isText N v0 (110 : Int32) (101 : Int32) (119 : Int32) (0 : Int32) (0 : Int32) (0 : Int32) q25.2).bind fun q27 =>
  if q27.1 = 0 then (
  (fX12_isText N v0 (110 : Int32) (117 : Int32) (108 : Int32) (108 : Int32) (0 : Int32) (0 : Int32) q27.2).bind fun q29 =>
  if q29.1 = 0 then (
  (fX12_isText N v0 (116 : Int32) (114 : Int32) (117 : Int32) (101 : Int32) (0 : Int32) (0 : Int32) q29.2).bind fun q31 =>
  if q31.1 = 0 then (
  (fX12_isText N v0 (102 : Int32) (97 : Int32) (108 : Int32) (115 : Int32) (101 : Int32) (0 : Int32) q31.2).bind fun q33 =>
  if q33.1 = 0 then (
  (fX12_isText N v0 (116 : Int32) (104 : Int32) (105 : Int32) (115 : Int32) (0 : Int32) (0 : Int32) q33.2).bind fun q35 =>
  if q35.1 = 0 then (
  (fX12_isText N v0 (114 : Int32) (101 : Int32) (97 : Int32) (100 : Int32) (0 : Int32) (0 : Int32) q35.2).bind fun q37 =>
  if q37.1 = 0 then (
  (fX12_isText N v0 (97 : Int32) (115 : Int32) (0 : Int32) (0 : Int32) (0 : Int32) (0 : Int32) q37.2).bind fun q39 =>
  if q39.1 = 0 then (
  (fX12_isText N v0 (105 : Int32) (115 : Int32) (0 : Int32) (0 : Int32) (0 : Int32) (0 : Int32) q39.2).bind fun q41 =>
  if q41.1 = 0 then (
  some ((0 : Int32), q41.2)) else (
  some ((21 : Int32), q41.2))) else (
  some ((20 : Int32), q39.2))) else (
  some ((19 : Int32), q37.2))) else (
  some ((18 : Int32), q35.2))) else (
  some ((17 : Int32), q33.2))) else (
  some ((16 : Int32), q31.2))) else (
  some ((15 : Int32), q29.2))) else (
  some ((14 : Int32), q27.2))) else (
  some ((13 : Int32), q25.2))) else (
  some ((12 : Int32), q23.2))) else (
  some ((11 : Int32), q21.2))) else (
  some ((10 : Int32), q19.2))) else (
  some ((9 : Int32), q17.2))) else (
  some ((8 : Int32), q15.2))) else (
  some ((7 : Int32), q13.2))) else (
  some ((6 : Int32), q11.2))) else (
  some ((5 : Int32), q9.2))) else (
  some ((4 : Int32), q7.2))) else (
  some ((3 : Int32), q5.2))) else (
  some ((2 : Int32), q3.2))) else (
  some ((1 : Int32), q1.2))) else none
theorem oX12_keyOf {N : Nat} {v0 : Nat} {h : pH} {q : Int32 × pH} (hf : fX12_keyOf N v0 h = some q) : isO h v0 12 = true := by
  unfold fX12_keyOf at hf
  by_cases hc : isO h v0 12 = true
  · exact hc
  · rw [if_neg hc] at hf; cases hf
theorem cX12_keyOf (X : pX) (N d : Nat) (v0 : Nat) (h : pH) (q : Int32 × pH) (hf : fX12_keyOf N v0 h = some q) : Calls X (d + 1) 238 [.ref v0] h (some (.int q.1), q.2, 0, 0) := by
  refine Calls.of M238 (Nat.le_of_ble_eq_true rfl) ?_
  show Run X (d + 1) 12 false (pCd 8136) 1 (some .int) 0 [(0, .ref v0)] [] h 0 0 (some (.int q.1), q.2, 0, 0)
  unfold fX12_keyOf at hf
  by_cases hc : isO h v0 12 = true
  · rw [if_pos hc] at hf
    have nv0 : ¬ v0 = 4 := isO_ne hc
    refine r_aload_n (dGet dX12_keyOf (j := 0) rfl) nv0 rfl ?_
    refine r_bipush (dGet dX12_keyOf (j := 1) rfl) kB_99 ?_
    refine r_bipush (dGet dX12_keyOf (j := 2) rfl) kB_108 ?_
    refine r_bipush (dGet dX12_keyOf (j := 3) rfl) kB_97 ?_
    refine r_bipush (dGet dX12_keyOf (j := 4) rfl) kB_115 ?_
    refine r_bipush (dGet dX12_keyOf (j := 5) rfl) kB_115 ?_
    refine r_iconst (dGet dX12_keyOf (j := 6) rfl) kI_0 ?_
    obtain ⟨q1, eq1, hf⟩ := Option.bind_eq_some_iff.mp hf
    refine r_virtual (dGet dX12_keyOf (j := 7) rfl) L12_249 M239 rfl rfl (Nat.le_of_ble_eq_true rfl) (oX12_isText eq1) (cX12_isText X N (d + 0) v0 (99 : Int32) (108 : Int32) (97 : Int32) (115 : Int32) (115 : Int32) (0 : Int32) h q1 eq1) ?_
    by_cases c2 : q1.1 = 0
    · rw [if_pos c2] at hf
      refine r_if_eq_t (dGet dX12_keyOf (j := 8) rfl) rfl c2 ?_
      refine r_aload_n (dGet dX12_keyOf (j := 11) rfl) nv0 rfl ?_
      refine r_bipush (dGet dX12_keyOf (j := 12) rfl) kB_105 ?_
      refine r_bipush (dGet dX12_keyOf (j := 13) rfl) kB_110 ?_
      refine r_bipush (dGet dX12_keyOf (j := 14) rfl) kB_116 ?_
      refine r_iconst (dGet dX12_keyOf (j := 15) rfl) kI_0 ?_
      refine r_iconst (dGet dX12_keyOf (j := 16) rfl) kI_0 ?_
      refine r_iconst (dGet dX12_keyOf (j := 17) rfl) kI_0 ?_
      obtain ⟨q3, eq3, hf⟩ := Option.bind_eq_some_iff.mp hf
      refine r_virtual (dGet dX12_keyOf (j := 18) rfl) L12_249 M239 rfl rfl (Nat.le_of_ble_eq_true rfl) (oX12_isText eq3) (cX12_isText X N (d + 0) v0 (105 : Int32) (110 : Int32) (116 : Int32) (0 : Int32) (0 : Int32) (0 : Int32) q1.2 q3 eq3) ?_
      by_cases c4 : q3.1 = 0
      · rw [if_pos c4] at hf
        refine r_if_eq_t (dGet dX12_keyOf (j := 19) rfl) rfl c4 ?_
        refine r_aload_n (dGet dX12_keyOf (j := 22) rfl) nv0 rfl ?_
        refine r_bipush (dGet dX12_keyOf (j := 23) rfl) kB_98 ?_
        refine r_bipush (dGet dX12_keyOf (j := 24) rfl) kB_111 ?_
        refine r_bipush (dGet dX12_keyOf (j := 25) rfl) kB_111 ?_
        refine r_bipush (dGet dX12_keyOf (j := 26) rfl) kB_108 ?_
        refine r_iconst (dGet dX12_keyOf (j := 27) rfl) kI_0 ?_
        refine r_iconst (dGet dX12_keyOf (j := 28) rfl) kI_0 ?_
        obtain ⟨q5, eq5, hf⟩ := Option.bind_eq_some_iff.mp hf
        refine r_virtual (dGet dX12_keyOf (j := 29) rfl) L12_249 M239 rfl rfl (Nat.le_of_ble_eq_true rfl) (oX12_isText eq5) (cX12_isText X N (d + 0) v0 (98 : Int32) (111 : Int32) (111 : Int32) (108 : Int32) (0 : Int32) (0 : Int32) q3.2 q5 eq5) ?_
        by_cases c6 : q5.1 = 0
        · rw [if_pos c6] at hf
          refine r_if_eq_t (dGet dX12_keyOf (j := 30) rfl) rfl c6 ?_
          refine r_aload_n (dGet dX12_keyOf (j := 33) rfl) nv0 rfl ?_
          refine r_bipush (dGet dX12_keyOf (j := 34) rfl) kB_105 ?_
          refine r_bipush (dGet dX12_keyOf (j := 35) rfl) kB_110 ?_
          refine r_bipush (dGet dX12_keyOf (j := 36) rfl) kB_116 ?_
          refine r_bipush (dGet dX12_keyOf (j := 37) rfl) kB_115 ?_
          refine r_iconst (dGet dX12_keyOf (j := 38) rfl) kI_0 ?_
          refine r_iconst (dGet dX12_keyOf (j := 39) rfl) kI_0 ?_
          obtain ⟨q7, eq7, hf⟩ := Option.bind_eq_some_iff.mp hf
          refine r_virtual (dGet dX12_keyOf (j := 40) rfl) L12_249 M239 rfl rfl (Nat.le_of_ble_eq_true rfl) (oX12_isText eq7) (cX12_isText X N (d + 0) v0 (105 : Int32) (110 : Int32) (116 : Int32) (115 : Int32) (0 : Int32) (0 : Int32) q5.2 q7 eq7) ?_
          by_cases c8 : q7.1 = 0
          · rw [if_pos c8] at hf
            refine r_if_eq_t (dGet dX12_keyOf (j := 41) rfl) rfl c8 ?_
            refine r_aload_n (dGet dX12_keyOf (j := 44) rfl) nv0 rfl ?_
            refine r_bipush (dGet dX12_keyOf (j := 45) rfl) kB_118 ?_
            refine r_bipush (dGet dX12_keyOf (j := 46) rfl) kB_111 ?_
            refine r_bipush (dGet dX12_keyOf (j := 47) rfl) kB_105 ?_
            refine r_bipush (dGet dX12_keyOf (j := 48) rfl) kB_100 ?_
            refine r_iconst (dGet dX12_keyOf (j := 49) rfl) kI_0 ?_
            refine r_iconst (dGet dX12_keyOf (j := 50) rfl) kI_0 ?_
            obtain ⟨q9, eq9, hf⟩ := Option.bind_eq_some_iff.mp hf
            refine r_virtual (dGet dX12_keyOf (j := 51) rfl) L12_249 M239 rfl rfl (Nat.le_of_ble_eq_true rfl) (oX12_isText eq9) (cX12_isText X N (d + 0) v0 (118 : Int32) (111 : Int32) (105 : Int32) (100 : Int32) (0 : Int32) (0 : Int32) q7.2 q9 eq9) ?_
            by_cases c10 : q9.1 = 0
            · rw [if_pos c10] at hf
              refine r_if_eq_t (dGet dX12_keyOf (j := 52) rfl) rfl c10 ?_
              refine r_aload_n (dGet dX12_keyOf (j := 55) rfl) nv0 rfl ?_
              refine r_bipush (dGet dX12_keyOf (j := 56) rfl) kB_105 ?_
              refine r_bipush (dGet dX12_keyOf (j := 57) rfl) kB_102 ?_
              refine r_iconst (dGet dX12_keyOf (j := 58) rfl) kI_0 ?_
              refine r_iconst (dGet dX12_keyOf (j := 59) rfl) kI_0 ?_
              refine r_iconst (dGet dX12_keyOf (j := 60) rfl) kI_0 ?_
              refine r_iconst (dGet dX12_keyOf (j := 61) rfl) kI_0 ?_
              obtain ⟨q11, eq11, hf⟩ := Option.bind_eq_some_iff.mp hf
              refine r_virtual (dGet dX12_keyOf (j := 62) rfl) L12_249 M239 rfl rfl (Nat.le_of_ble_eq_true rfl) (oX12_isText eq11) (cX12_isText X N (d + 0) v0 (105 : Int32) (102 : Int32) (0 : Int32) (0 : Int32) (0 : Int32) (0 : Int32) q9.2 q11 eq11) ?_
              by_cases c12 : q11.1 = 0
              · rw [if_pos c12] at hf
                refine r_if_eq_t (dGet dX12_keyOf (j := 63) rfl) rfl c12 ?_
                refine r_aload_n (dGet dX12_keyOf (j := 66) rfl) nv0 rfl ?_
                refine r_bipush (dGet dX12_keyOf (j := 67) rfl) kB_101 ?_
                refine r_bipush (dGet dX12_keyOf (j := 68) rfl) kB_108 ?_
                refine r_bipush (dGet dX12_keyOf (j := 69) rfl) kB_115 ?_
                refine r_bipush (dGet dX12_keyOf (j := 70) rfl) kB_101 ?_
                refine r_iconst (dGet dX12_keyOf (j := 71) rfl) kI_0 ?_
                refine r_iconst (dGet dX12_keyOf (j := 72) rfl) kI_0 ?_
                obtain ⟨q13, eq13, hf⟩ := Option.bind_eq_some_iff.mp hf
                refine r_virtual (dGet dX12_keyOf (j := 73) rfl) L12_249 M239 rfl rfl (Nat.le_of_ble_eq_true rfl) (oX12_isText eq13) (cX12_isText X N (d + 0) v0 (101 : Int32) (108 : Int32) (115 : Int32) (101 : Int32) (0 : Int32) (0 : Int32) q11.2 q13 eq13) ?_
                by_cases c14 : q13.1 = 0
                · rw [if_pos c14] at hf
                  refine r_if_eq_t (dGet dX12_keyOf (j := 74) rfl) rfl c14 ?_
                  refine r_aload_n (dGet dX12_keyOf (j := 77) rfl) nv0 rfl ?_
                  refine r_bipush (dGet dX12_keyOf (j := 78) rfl) kB_119 ?_
                  refine r_bipush (dGet dX12_keyOf (j := 79) rfl) kB_104 ?_
                  refine r_bipush (dGet dX12_keyOf (j := 80) rfl) kB_105 ?_
                  refine r_bipush (dGet dX12_keyOf (j := 81) rfl) kB_108 ?_
                  refine r_bipush (dGet dX12_keyOf (j := 82) rfl) kB_101 ?_
                  refine r_iconst (dGet dX12_keyOf (j := 83) rfl) kI_0 ?_
                  obtain ⟨q15, eq15, hf⟩ := Option.bind_eq_some_iff.mp hf
                  refine r_virtual (dGet dX12_keyOf (j := 84) rfl) L12_249 M239 rfl rfl (Nat.le_of_ble_eq_true rfl) (oX12_isText eq15) (cX12_isText X N (d + 0) v0 (119 : Int32) (104 : Int32) (105 : Int32) (108 : Int32) (101 : Int32) (0 : Int32) q13.2 q15 eq15) ?_
                  by_cases c16 : q15.1 = 0
                  · rw [if_pos c16] at hf
                    refine r_if_eq_t (dGet dX12_keyOf (j := 85) rfl) rfl c16 ?_
                    refine r_aload_n (dGet dX12_keyOf (j := 88) rfl) nv0 rfl ?_
                    refine r_bipush (dGet dX12_keyOf (j := 89) rfl) kB_114 ?_
                    refine r_bipush (dGet dX12_keyOf (j := 90) rfl) kB_101 ?_
                    refine r_bipush (dGet dX12_keyOf (j := 91) rfl) kB_116 ?_
                    refine r_bipush (dGet dX12_keyOf (j := 92) rfl) kB_117 ?_
                    refine r_bipush (dGet dX12_keyOf (j := 93) rfl) kB_114 ?_
                    refine r_bipush (dGet dX12_keyOf (j := 94) rfl) kB_110 ?_
                    obtain ⟨q17, eq17, hf⟩ := Option.bind_eq_some_iff.mp hf
                    refine r_virtual (dGet dX12_keyOf (j := 95) rfl) L12_249 M239 rfl rfl (Nat.le_of_ble_eq_true rfl) (oX12_isText eq17) (cX12_isText X N (d + 0) v0 (114 : Int32) (101 : Int32) (116 : Int32) (117 : Int32) (114 : Int32) (110 : Int32) q15.2 q17 eq17) ?_
                    by_cases c18 : q17.1 = 0
                    · rw [if_pos c18] at hf
                      refine r_if_eq_t (dGet dX12_keyOf (j := 96) rfl) rfl c18 ?_
                      refine r_aload_n (dGet dX12_keyOf (j := 99) rfl) nv0 rfl ?_
                      refine r_bipush (dGet dX12_keyOf (j := 100) rfl) kB_116 ?_
                      refine r_bipush (dGet dX12_keyOf (j := 101) rfl) kB_104 ?_
                      refine r_bipush (dGet dX12_keyOf (j := 102) rfl) kB_114 ?_
                      refine r_bipush (dGet dX12_keyOf (j := 103) rfl) kB_111 ?_
                      refine r_bipush (dGet dX12_keyOf (j := 104) rfl) kB_119 ?_
                      refine r_iconst (dGet dX12_keyOf (j := 105) rfl) kI_0 ?_
                      obtain ⟨q19, eq19, hf⟩ := Option.bind_eq_some_iff.mp hf
                      refine r_virtual (dGet dX12_keyOf (j := 106) rfl) L12_249 M239 rfl rfl (Nat.le_of_ble_eq_true rfl) (oX12_isText eq19) (cX12_isText X N (d + 0) v0 (116 : Int32) (104 : Int32) (114 : Int32) (111 : Int32) (119 : Int32) (0 : Int32) q17.2 q19 eq19) ?_
                      by_cases c20 : q19.1 = 0
                      · rw [if_pos c20] at hf
                        refine r_if_eq_t (dGet dX12_keyOf (j := 107) rfl) rfl c20 ?_
                        refine r_aload_n (dGet dX12_keyOf (j := 110) rfl) nv0 rfl ?_
                        refine r_bipush (dGet dX12_keyOf (j := 111) rfl) kB_116 ?_
                        refine r_bipush (dGet dX12_keyOf (j := 112) rfl) kB_114 ?_
                        refine r_bipush (dGet dX12_keyOf (j := 113) rfl) kB_121 ?_
                        refine r_iconst (dGet dX12_keyOf (j := 114) rfl) kI_0 ?_
                        refine r_iconst (dGet dX12_keyOf (j := 115) rfl) kI_0 ?_
                        refine r_iconst (dGet dX12_keyOf (j := 116) rfl) kI_0 ?_
                        obtain ⟨q21, eq21, hf⟩ := Option.bind_eq_some_iff.mp hf
                        refine r_virtual (dGet dX12_keyOf (j := 117) rfl) L12_249 M239 rfl rfl (Nat.le_of_ble_eq_true rfl) (oX12_isText eq21) (cX12_isText X N (d + 0) v0 (116 : Int32) (114 : Int32) (121 : Int32) (0 : Int32) (0 : Int32) (0 : Int32) q19.2 q21 eq21) ?_
                        by_cases c22 : q21.1 = 0
                        · rw [if_pos c22] at hf
                          refine r_if_eq_t (dGet dX12_keyOf (j := 118) rfl) rfl c22 ?_
                          refine r_aload_n (dGet dX12_keyOf (j := 121) rfl) nv0 rfl ?_
                          refine r_bipush (dGet dX12_keyOf (j := 122) rfl) kB_99 ?_
                          refine r_bipush (dGet dX12_keyOf (j := 123) rfl) kB_97 ?_
                          refine r_bipush (dGet dX12_keyOf (j := 124) rfl) kB_116 ?_
                          refine r_bipush (dGet dX12_keyOf (j := 125) rfl) kB_99 ?_
                          refine r_bipush (dGet dX12_keyOf (j := 126) rfl) kB_104 ?_
                          refine r_iconst (dGet dX12_keyOf (j := 127) rfl) kI_0 ?_
                          obtain ⟨q23, eq23, hf⟩ := Option.bind_eq_some_iff.mp hf
                          refine r_virtual (dGet dX12_keyOf (j := 128) rfl) L12_249 M239 rfl rfl (Nat.le_of_ble_eq_true rfl) (oX12_isText eq23) (cX12_isText X N (d + 0) v0 (99 : Int32) (97 : Int32) (116 : Int32) (99 : Int32) (104 : Int32) (0 : Int32) q21.2 q23 eq23) ?_
                          by_cases c24 : q23.1 = 0
                          · rw [if_pos c24] at hf
                            refine r_if_eq_t (dGet dX12_keyOf (j := 129) rfl) rfl c24 ?_
                            refine r_aload_n (dGet dX12_keyOf (j := 132) rfl) nv0 rfl ?_
                            refine r_bipush (dGet dX12_keyOf (j := 133) rfl) kB_112 ?_
                            refine r_bipush (dGet dX12_keyOf (j := 134) rfl) kB_114 ?_
                            refine r_bipush (dGet dX12_keyOf (j := 135) rfl) kB_105 ?_
                            refine r_bipush (dGet dX12_keyOf (j := 136) rfl) kB_110 ?_
                            refine r_bipush (dGet dX12_keyOf (j := 137) rfl) kB_116 ?_
                            refine r_iconst (dGet dX12_keyOf (j := 138) rfl) kI_0 ?_
                            obtain ⟨q25, eq25, hf⟩ := Option.bind_eq_some_iff.mp hf
                            refine r_virtual (dGet dX12_keyOf (j := 139) rfl) L12_249 M239 rfl rfl (Nat.le_of_ble_eq_true rfl) (oX12_isText eq25) (cX12_isText X N (d + 0) v0 (112 : Int32) (114 : Int32) (105 : Int32) (110 : Int32) (116 : Int32) (0 : Int32) q23.2 q25 eq25) ?_
                            by_cases c26 : q25.1 = 0
                            · rw [if_pos c26] at hf
                              refine r_if_eq_t (dGet dX12_keyOf (j := 140) rfl) rfl c26 ?_
                              refine r_aload_n (dGet dX12_keyOf (j := 143) rfl) nv0 rfl ?_
                              refine r_bipush (dGet dX12_keyOf (j := 144) rfl) kB_110 ?_
                              refine r_bipush (dGet dX12_keyOf (j := 145) rfl) kB_101 ?_
                              refine r_bipush (dGet dX12_keyOf (j := 146) rfl) kB_119 ?_
                              refine r_iconst (dGet dX12_keyOf (j := 147) rfl) kI_0 ?_
                              refine r_iconst (dGet dX12_keyOf (j := 148) rfl) kI_0 ?_
                              refine r_iconst (dGet dX12_keyOf (j := 149) rfl) kI_0 ?_
                              obtain ⟨q27, eq27, hf⟩ := Option.bind_eq_some_iff.mp hf
                              refine r_virtual (dGet dX12_keyOf (j := 150) rfl) L12_249 M239 rfl rfl (Nat.le_of_ble_eq_true rfl) (oX12_isText eq27) (cX12_isText X N (d + 0) v0 (110 : Int32) (101 : Int32) (119 : Int32) (0 : Int32) (0 : Int32) (0 : Int32) q25.2 q27 eq27) ?_
                              by_cases c28 : q27.1 = 0
                              · rw [if_pos c28] at hf
                                refine r_if_eq_t (dGet dX12_keyOf (j := 151) rfl) rfl c28 ?_
                                refine r_aload_n (dGet dX12_keyOf (j := 154) rfl) nv0 rfl ?_
                                refine r_bipush (dGet dX12_keyOf (j := 155) rfl) kB_110 ?_
                                refine r_bipush (dGet dX12_keyOf (j := 156) rfl) kB_117 ?_
                                refine r_bipush (dGet dX12_keyOf (j := 157) rfl) kB_108 ?_
                                refine r_bipush (dGet dX12_keyOf (j := 158) rfl) kB_108 ?_
                                refine r_iconst (dGet dX12_keyOf (j := 159) rfl) kI_0 ?_
                                refine r_iconst (dGet dX12_keyOf (j := 160) rfl) kI_0 ?_
                                obtain ⟨q29, eq29, hf⟩ := Option.bind_eq_some_iff.mp hf
                                refine r_virtual (dGet dX12_keyOf (j := 161) rfl) L12_249 M239 rfl rfl (Nat.le_of_ble_eq_true rfl) (oX12_isText eq29) (cX12_isText X N (d + 0) v0 (110 : Int32) (117 : Int32) (108 : Int32) (108 : Int32) (0 : Int32) (0 : Int32) q27.2 q29 eq29) ?_
                                by_cases c30 : q29.1 = 0
                                · rw [if_pos c30] at hf
                                  refine r_if_eq_t (dGet dX12_keyOf (j := 162) rfl) rfl c30 ?_
                                  refine r_aload_n (dGet dX12_keyOf (j := 165) rfl) nv0 rfl ?_
                                  refine r_bipush (dGet dX12_keyOf (j := 166) rfl) kB_116 ?_
                                  refine r_bipush (dGet dX12_keyOf (j := 167) rfl) kB_114 ?_
                                  refine r_bipush (dGet dX12_keyOf (j := 168) rfl) kB_117 ?_
                                  refine r_bipush (dGet dX12_keyOf (j := 169) rfl) kB_101 ?_
                                  refine r_iconst (dGet dX12_keyOf (j := 170) rfl) kI_0 ?_
                                  refine r_iconst (dGet dX12_keyOf (j := 171) rfl) kI_0 ?_
                                  obtain ⟨q31, eq31, hf⟩ := Option.bind_eq_some_iff.mp hf
                                  refine r_virtual (dGet dX12_keyOf (j := 172) rfl) L12_249 M239 rfl rfl (Nat.le_of_ble_eq_true rfl) (oX12_isText eq31) (cX12_isText X N (d + 0) v0 (116 : Int32) (114 : Int32) (117 : Int32) (101 : Int32) (0 : Int32) (0 : Int32) q29.2 q31 eq31) ?_
                                  by_cases c32 : q31.1 = 0
                                  · rw [if_pos c32] at hf
                                    refine r_if_eq_t (dGet dX12_keyOf (j := 173) rfl) rfl c32 ?_
                                    refine r_aload_n (dGet dX12_keyOf (j := 176) rfl) nv0 rfl ?_
                                    refine r_bipush (dGet dX12_keyOf (j := 177) rfl) kB_102 ?_
                                    refine r_bipush (dGet dX12_keyOf (j := 178) rfl) kB_97 ?_
                                    refine r_bipush (dGet dX12_keyOf (j := 179) rfl) kB_108 ?_
                                    refine r_bipush (dGet dX12_keyOf (j := 180) rfl) kB_115 ?_
                                    refine r_bipush (dGet dX12_keyOf (j := 181) rfl) kB_101 ?_
                                    refine r_iconst (dGet dX12_keyOf (j := 182) rfl) kI_0 ?_
                                    obtain ⟨q33, eq33, hf⟩ := Option.bind_eq_some_iff.mp hf
                                    refine r_virtual (dGet dX12_keyOf (j := 183) rfl) L12_249 M239 rfl rfl (Nat.le_of_ble_eq_true rfl) (oX12_isText eq33) (cX12_isText X N (d + 0) v0 (102 : Int32) (97 : Int32) (108 : Int32) (115 : Int32) (101 : Int32) (0 : Int32) q31.2 q33 eq33) ?_
                                    by_cases c34 : q33.1 = 0
                                    · rw [if_pos c34] at hf
                                      refine r_if_eq_t (dGet dX12_keyOf (j := 184) rfl) rfl c34 ?_
                                      refine r_aload_n (dGet dX12_keyOf (j := 187) rfl) nv0 rfl ?_
                                      refine r_bipush (dGet dX12_keyOf (j := 188) rfl) kB_116 ?_
                                      refine r_bipush (dGet dX12_keyOf (j := 189) rfl) kB_104 ?_
                                      refine r_bipush (dGet dX12_keyOf (j := 190) rfl) kB_105 ?_
                                      refine r_bipush (dGet dX12_keyOf (j := 191) rfl) kB_115 ?_
                                      refine r_iconst (dGet dX12_keyOf (j := 192) rfl) kI_0 ?_
                                      refine r_iconst (dGet dX12_keyOf (j := 193) rfl) kI_0 ?_
                                      obtain ⟨q35, eq35, hf⟩ := Option.bind_eq_some_iff.mp hf
                                      refine r_virtual (dGet dX12_keyOf (j := 194) rfl) L12_249 M239 rfl rfl (Nat.le_of_ble_eq_true rfl) (oX12_isText eq35) (cX12_isText X N (d + 0) v0 (116 : Int32) (104 : Int32) (105 : Int32) (115 : Int32) (0 : Int32) (0 : Int32) q33.2 q35 eq35) ?_
                                      by_cases c36 : q35.1 = 0
                                      · rw [if_pos c36] at hf
                                        refine r_if_eq_t (dGet dX12_keyOf (j := 195) rfl) rfl c36 ?_
                                        refine r_aload_n (dGet dX12_keyOf (j := 198) rfl) nv0 rfl ?_
                                        refine r_bipush (dGet dX12_keyOf (j := 199) rfl) kB_114 ?_
                                        refine r_bipush (dGet dX12_keyOf (j := 200) rfl) kB_101 ?_
                                        refine r_bipush (dGet dX12_keyOf (j := 201) rfl) kB_97 ?_
                                        refine r_bipush (dGet dX12_keyOf (j := 202) rfl) kB_100 ?_
                                        refine r_iconst (dGet dX12_keyOf (j := 203) rfl) kI_0 ?_
                                        refine r_iconst (dGet dX12_keyOf (j := 204) rfl) kI_0 ?_
                                        obtain ⟨q37, eq37, hf⟩ := Option.bind_eq_some_iff.mp hf
                                        refine r_virtual (dGet dX12_keyOf (j := 205) rfl) L12_249 M239 rfl rfl (Nat.le_of_ble_eq_true rfl) (oX12_isText eq37) (cX12_isText X N (d + 0) v0 (114 : Int32) (101 : Int32) (97 : Int32) (100 : Int32) (0 : Int32) (0 : Int32) q35.2 q37 eq37) ?_
                                        by_cases c38 : q37.1 = 0
                                        · rw [if_pos c38] at hf
                                          refine r_if_eq_t (dGet dX12_keyOf (j := 206) rfl) rfl c38 ?_
                                          refine r_aload_n (dGet dX12_keyOf (j := 209) rfl) nv0 rfl ?_
                                          refine r_bipush (dGet dX12_keyOf (j := 210) rfl) kB_97 ?_
                                          refine r_bipush (dGet dX12_keyOf (j := 211) rfl) kB_115 ?_
                                          refine r_iconst (dGet dX12_keyOf (j := 212) rfl) kI_0 ?_
                                          refine r_iconst (dGet dX12_keyOf (j := 213) rfl) kI_0 ?_
                                          refine r_iconst (dGet dX12_keyOf (j := 214) rfl) kI_0 ?_
                                          refine r_iconst (dGet dX12_keyOf (j := 215) rfl) kI_0 ?_
                                          obtain ⟨q39, eq39, hf⟩ := Option.bind_eq_some_iff.mp hf
                                          refine r_virtual (dGet dX12_keyOf (j := 216) rfl) L12_249 M239 rfl rfl (Nat.le_of_ble_eq_true rfl) (oX12_isText eq39) (cX12_isText X N (d + 0) v0 (97 : Int32) (115 : Int32) (0 : Int32) (0 : Int32) (0 : Int32) (0 : Int32) q37.2 q39 eq39) ?_
                                          by_cases c40 : q39.1 = 0
                                          · rw [if_pos c40] at hf
                                            refine r_if_eq_t (dGet dX12_keyOf (j := 217) rfl) rfl c40 ?_
                                            refine r_aload_n (dGet dX12_keyOf (j := 220) rfl) nv0 rfl ?_
                                            refine r_bipush (dGet dX12_keyOf (j := 221) rfl) kB_105 ?_
                                            refine r_bipush (dGet dX12_keyOf (j := 222) rfl) kB_115 ?_
                                            refine r_iconst (dGet dX12_keyOf (j := 223) rfl) kI_0 ?_
                                            refine r_iconst (dGet dX12_keyOf (j := 224) rfl) kI_0 ?_
                                            refine r_iconst (dGet dX12_keyOf (j := 225) rfl) kI_0 ?_
                                            refine r_iconst (dGet dX12_keyOf (j := 226) rfl) kI_0 ?_
                                            obtain ⟨q41, eq41, hf⟩ := Option.bind_eq_some_iff.mp hf
                                            refine r_virtual (dGet dX12_keyOf (j := 227) rfl) L12_249 M239 rfl rfl (Nat.le_of_ble_eq_true rfl) (oX12_isText eq41) (cX12_isText X N (d + 0) v0 (105 : Int32) (115 : Int32) (0 : Int32) (0 : Int32) (0 : Int32) (0 : Int32) q39.2 q41 eq41) ?_
                                            by_cases c42 : q41.1 = 0
                                            · rw [if_pos c42] at hf
                                              refine r_if_eq_t (dGet dX12_keyOf (j := 228) rfl) rfl c42 ?_
                                              refine r_iconst (dGet dX12_keyOf (j := 231) rfl) kI_0 ?_
                                              have hq := Option.some.inj hf
                                              subst hq
                                              exact r_iret (dGet dX12_keyOf (j := 232) rfl) rfl rfl
                                            · rw [if_neg c42] at hf
                                              refine r_if_eq_f (dGet dX12_keyOf (j := 228) rfl) rfl c42 ?_
                                              refine r_bipush (dGet dX12_keyOf (j := 229) rfl) kB_21 ?_
                                              refine r_goto (dGet dX12_keyOf (j := 230) rfl) rfl ?_
                                              have hq := Option.some.inj hf
                                              subst hq
                                              exact r_iret (dGet dX12_keyOf (j := 232) rfl) rfl rfl
                                          · rw [if_neg c40] at hf
                                            refine r_if_eq_f (dGet dX12_keyOf (j := 217) rfl) rfl c40 ?_
                                            refine r_bipush (dGet dX12_keyOf (j := 218) rfl) kB_20 ?_
                                            have hq := Option.some.inj hf
                                            subst hq
                                            exact r_iret (dGet dX12_keyOf (j := 219) rfl) rfl rfl
                                        · rw [if_neg c38] at hf
                                          refine r_if_eq_f (dGet dX12_keyOf (j := 206) rfl) rfl c38 ?_
                                          refine r_bipush (dGet dX12_keyOf (j := 207) rfl) kB_19 ?_
                                          have hq := Option.some.inj hf
                                          subst hq
                                          exact r_iret (dGet dX12_keyOf (j := 208) rfl) rfl rfl
                                      · rw [if_neg c36] at hf
                                        refine r_if_eq_f (dGet dX12_keyOf (j := 195) rfl) rfl c36 ?_
                                        refine r_bipush (dGet dX12_keyOf (j := 196) rfl) kB_18 ?_
                                        have hq := Option.some.inj hf
                                        subst hq
                                        exact r_iret (dGet dX12_keyOf (j := 197) rfl) rfl rfl
                                    · rw [if_neg c34] at hf
                                      refine r_if_eq_f (dGet dX12_keyOf (j := 184) rfl) rfl c34 ?_
                                      refine r_bipush (dGet dX12_keyOf (j := 185) rfl) kB_17 ?_
                                      have hq := Option.some.inj hf
                                      subst hq
                                      exact r_iret (dGet dX12_keyOf (j := 186) rfl) rfl rfl
                                  · rw [if_neg c32] at hf
                                    refine r_if_eq_f (dGet dX12_keyOf (j := 173) rfl) rfl c32 ?_
                                    refine r_bipush (dGet dX12_keyOf (j := 174) rfl) kB_16 ?_
                                    have hq := Option.some.inj hf
                                    subst hq
                                    exact r_iret (dGet dX12_keyOf (j := 175) rfl) rfl rfl
                                · rw [if_neg c30] at hf
                                  refine r_if_eq_f (dGet dX12_keyOf (j := 162) rfl) rfl c30 ?_
                                  refine r_bipush (dGet dX12_keyOf (j := 163) rfl) kB_15 ?_
                                  have hq := Option.some.inj hf
                                  subst hq
                                  exact r_iret (dGet dX12_keyOf (j := 164) rfl) rfl rfl
                              · rw [if_neg c28] at hf
                                refine r_if_eq_f (dGet dX12_keyOf (j := 151) rfl) rfl c28 ?_
                                refine r_bipush (dGet dX12_keyOf (j := 152) rfl) kB_14 ?_
                                have hq := Option.some.inj hf
                                subst hq
                                exact r_iret (dGet dX12_keyOf (j := 153) rfl) rfl rfl
                            · rw [if_neg c26] at hf
                              refine r_if_eq_f (dGet dX12_keyOf (j := 140) rfl) rfl c26 ?_
                              refine r_bipush (dGet dX12_keyOf (j := 141) rfl) kB_13 ?_
                              have hq := Option.some.inj hf
                              subst hq
                              exact r_iret (dGet dX12_keyOf (j := 142) rfl) rfl rfl
                          · rw [if_neg c24] at hf
                            refine r_if_eq_f (dGet dX12_keyOf (j := 129) rfl) rfl c24 ?_
                            refine r_bipush (dGet dX12_keyOf (j := 130) rfl) kB_12 ?_
                            have hq := Option.some.inj hf
                            subst hq
                            exact r_iret (dGet dX12_keyOf (j := 131) rfl) rfl rfl
                        · rw [if_neg c22] at hf
                          refine r_if_eq_f (dGet dX12_keyOf (j := 118) rfl) rfl c22 ?_
                          refine r_bipush (dGet dX12_keyOf (j := 119) rfl) kB_11 ?_
                          have hq := Option.some.inj hf
                          subst hq
                          exact r_iret (dGet dX12_keyOf (j := 120) rfl) rfl rfl
                      · rw [if_neg c20] at hf
                        refine r_if_eq_f (dGet dX12_keyOf (j := 107) rfl) rfl c20 ?_
                        refine r_bipush (dGet dX12_keyOf (j := 108) rfl) kB_10 ?_
                        have hq := Option.some.inj hf
                        subst hq
                        exact r_iret (dGet dX12_keyOf (j := 109) rfl) rfl rfl
                    · rw [if_neg c18] at hf
                      refine r_if_eq_f (dGet dX12_keyOf (j := 96) rfl) rfl c18 ?_
                      refine r_bipush (dGet dX12_keyOf (j := 97) rfl) kB_9 ?_
                      have hq := Option.some.inj hf
                      subst hq
                      exact r_iret (dGet dX12_keyOf (j := 98) rfl) rfl rfl
                  · rw [if_neg c16] at hf
                    refine r_if_eq_f (dGet dX12_keyOf (j := 85) rfl) rfl c16 ?_
                    refine r_bipush (dGet dX12_keyOf (j := 86) rfl) kB_8 ?_
                    have hq := Option.some.inj hf
                    subst hq
                    exact r_iret (dGet dX12_keyOf (j := 87) rfl) rfl rfl
                · rw [if_neg c14] at hf
                  refine r_if_eq_f (dGet dX12_keyOf (j := 74) rfl) rfl c14 ?_
                  refine r_bipush (dGet dX12_keyOf (j := 75) rfl) kB_7 ?_
                  have hq := Option.some.inj hf
                  subst hq
                  exact r_iret (dGet dX12_keyOf (j := 76) rfl) rfl rfl
              · rw [if_neg c12] at hf
                refine r_if_eq_f (dGet dX12_keyOf (j := 63) rfl) rfl c12 ?_
                refine r_bipush (dGet dX12_keyOf (j := 64) rfl) kB_6 ?_
                have hq := Option.some.inj hf
                subst hq
                exact r_iret (dGet dX12_keyOf (j := 65) rfl) rfl rfl
            · rw [if_neg c10] at hf
              refine r_if_eq_f (dGet dX12_keyOf (j := 52) rfl) rfl c10 ?_
              refine r_iconst (dGet dX12_keyOf (j := 53) rfl) kI_5 ?_
              have hq := Option.some.inj hf
              subst hq
              exact r_iret (dGet dX12_keyOf (j := 54) rfl) rfl rfl
          · rw [if_neg c8] at hf
            refine r_if_eq_f (dGet dX12_keyOf (j := 41) rfl) rfl c8 ?_
            refine r_iconst (dGet dX12_keyOf (j := 42) rfl) kI_4 ?_
            have hq := Option.some.inj hf
            subst hq
            exact r_iret (dGet dX12_keyOf (j := 43) rfl) rfl rfl
        · rw [if_neg c6] at hf
          refine r_if_eq_f (dGet dX12_keyOf (j := 30) rfl) rfl c6 ?_
          refine r_iconst (dGet dX12_keyOf (j := 31) rfl) kI_3 ?_
          have hq := Option.some.inj hf
          subst hq
          exact r_iret (dGet dX12_keyOf (j := 32) rfl) rfl rfl
      · rw [if_neg c4] at hf
        refine r_if_eq_f (dGet dX12_keyOf (j := 19) rfl) rfl c4 ?_
        refine r_iconst (dGet dX12_keyOf (j := 20) rfl) kI_2 ?_
        have hq := Option.some.inj hf
        subst hq
        exact r_iret (dGet dX12_keyOf (j := 21) rfl) rfl rfl
    · rw [if_neg c2] at hf
      refine r_if_eq_f (dGet dX12_keyOf (j := 8) rfl) rfl c2 ?_
      refine r_iconst (dGet dX12_keyOf (j := 9) rfl) kI_1 ?_
      have hq := Option.some.inj hf
      subst hq
      exact r_iret (dGet dX12_keyOf (j := 10) rfl) rfl rfl
  · rw [if_neg hc] at hf; cases hf
def eX12_nameOf : List (Nat × Instr × Nat) := [(0, .iconst 0, 1), (1, .istore_n 1, 1), (2, .iload_n 1, 1), (3, .aload_n 0, 1), (4, .getfield 221, 3), (7, .if_icmp .ge 87, 3), (10, .aload_n 0, 1), (11, .getfield 19, 3), (14, .iload_n 1, 1), (15, .iaload, 1), (16, .aload_n 0, 1), (17, .getfield 243, 3), (20, .if_icmp .ne 7, 3), (23, .iconst 1, 1), (24, .goto 4, 3), (27, .iconst 0, 1), (28, .istore_n 2, 1), (29, .iconst 0, 1), (30, .istore_n 3, 1), (31, .iload_n 3, 1), (32, .aload_n 0, 1), (33, .getfield 243, 3), (36, .if_icmp .ge 46, 3), (39, .iload_n 2, 1), (40, .ifCond .eq 42, 3), (43, .aload_n 0, 1), (44, .getfield 13, 3), (47, .aload_n 0, 1), (48, .getfield 16, 3), (51, .iload_n 1, 1), (52, .iaload, 1), (53, .iload_n 3, 1), (54, .iadd, 1), (55, .iaload, 1), (56, .aload_n 0, 1), (57, .getfield 13, 3), (60, .aload_n 0, 1), (61, .getfield 246, 3), (64, .iload_n 3, 1), (65, .iadd, 1), (66, .iaload, 1), (67, .if_icmp .ne 7, 3), (70, .iconst 1, 1), (71, .goto 4, 3), (74, .iconst 0, 1), (75, .istore_n 2, 1), (76, .iinc 3 1, 3), (79, .goto (-48), 3), (82, .iload_n 2, 1), (83, .ifCond .eq 5, 3), (86, .iload_n 1, 1), (87, .ireturn, 1), (88, .iinc 1 1, 3), (91, .goto (-89), 3), (94, .aload_n 0, 1), (95, .getfield 16, 3), (98, .aload_n 0, 1), (99, .getfield 221, 3), (102, .aload_n 0, 1), (103, .getfield 246, 3), (106, .iastore, 1), (107, .aload_n 0, 1), (108, .getfield 19, 3), (111, .aload_n 0, 1), (112, .getfield 221, 3), (115, .aload_n 0, 1), (116, .getfield 243, 3), (119, .iastore, 1), (120, .aload_n 0, 1), (121, .dup, 1), (122, .getfield 221, 3), (125, .iconst 1, 1), (126, .iadd, 1), (127, .putfield 221, 3), (130, .aload_n 0, 1), (131, .getfield 221, 3), (134, .iconst 1, 1), (135, .isub, 1), (136, .ireturn, 1)]
theorem dX12_nameOf : dChk (pCd 8144) eX12_nameOf = true := by decide +kernel
def fX12_nameOf_82 (N : Nat) (k2 : Nat → Int32 → pH → Option (Int32 × pH)) (v0 : Nat) (v1 : Int32) (v2 : Int32) (h : pH) : Option (Int32 × pH) :=
  if v2 = 0 then (
  k2 v0 (v1 + (1 : Int32)) h) else (
  some (v1, h))
theorem lX12_nameOf_82 (X : pX) (N d : Nat)  (k2 : Nat → Int32 → pH → Option (Int32 × pH)) (K2 : ∀ (w0 : Nat) (w1 : Int32) (h : pH) (q : Int32 × pH), k2 w0 w1 h = some q → ¬ w0 = 4 → Run X (d + 0) 12 false (pCd 8144) 4 (some .int) 2 [(0, .ref w0), (1, .int w1)] [] h 0 0 (some (.int q.1), q.2, 0, 0)) (v0 : Nat) (v1 : Int32) (v2 : Int32) (h : pH) (q : Int32 × pH) (hf : fX12_nameOf_82 N k2 v0 v1 v2 h = some q) (nv0 : ¬ v0 = 4) : Run X (d + 0) 12 false (pCd 8144) 4 (some .int) 82 [(0, .ref v0), (1, .int v1), (2, .int v2)] [] h 0 0 (some (.int q.1), q.2, 0, 0) := by
  unfold fX12_nameOf_82 at hf
  refine r_iload_n (dGet dX12_nameOf (j := 48) rfl) rfl ?_
  by_cases c1 : v2 = 0
  · rw [if_pos c1] at hf
    refine r_if_eq_t (dGet dX12_nameOf (j := 49) rfl) rfl c1 ?_
    refine r_iinc (lv' := [(1, .int (v1 + (1 : Int32))), (0, .ref v0), (2, .int v2)]) (dGet dX12_nameOf (j := 52) rfl) rfl (by decide) kI_1 rfl ?_
    refine r_goto (dGet dX12_nameOf (j := 53) rfl) rfl ?_
    refine Run.weak [(0, .ref v0), (1, .int (v1 + (1 : Int32)))] (by simp) (by simp [pNd]) ?_
    exact K2 v0 (v1 + (1 : Int32)) h q hf nv0
  · rw [if_neg c1] at hf
    refine r_if_eq_f (dGet dX12_nameOf (j := 49) rfl) rfl c1 ?_
    refine r_iload_n (dGet dX12_nameOf (j := 50) rfl) rfl ?_
    have hq := Option.some.inj hf
    subst hq
    exact r_iret (dGet dX12_nameOf (j := 51) rfl) rfl rfl
def fX12_nameOf_75 (N : Nat) (k2 : Nat → Int32 → pH → Option (Int32 × pH)) (k31 : Nat → Int32 → Int32 → Int32 → pH → Option (Int32 × pH)) (v0 : Nat) (v1 : Int32) (v3 : Int32) (s0 : Int32) (h : pH) : Option (Int32 × pH) :=
  k31 v0 v1 s0 (v3 + (1 : Int32)) h
theorem lX12_nameOf_75 (X : pX) (N d : Nat)  (k2 : Nat → Int32 → pH → Option (Int32 × pH)) (K2 : ∀ (w0 : Nat) (w1 : Int32) (h : pH) (q : Int32 × pH), k2 w0 w1 h = some q → ¬ w0 = 4 → Run X (d + 0) 12 false (pCd 8144) 4 (some .int) 2 [(0, .ref w0), (1, .int w1)] [] h 0 0 (some (.int q.1), q.2, 0, 0)) (k31 : Nat → Int32 → Int32 → Int32 → pH → Option (Int32 × pH)) (K31 : ∀ (w0 : Nat) (w1 : Int32) (w2 : Int32) (w3 : Int32) (h : pH) (q : Int32 × pH), k31 w0 w1 w2 w3 h = some q → ¬ w0 = 4 → Run X (d + 0) 12 false (pCd 8144) 4 (some .int) 31 [(0, .ref w0), (1, .int w1), (2, .int w2), (3, .int w3)] [] h 0 0 (some (.int q.1), q.2, 0, 0)) (v0 : Nat) (v1 : Int32) (v3 : Int32) (s0 : Int32) (h : pH) (q : Int32 × pH) (hf : fX12_nameOf_75 N k2 k31 v0 v1 v3 s0 h = some q) (nv0 : ¬ v0 = 4) : Run X (d + 0) 12 false (pCd 8144) 4 (some .int) 75 [(0, .ref v0), (1, .int v1), (3, .int v3)] [.int s0] h 0 0 (some (.int q.1), q.2, 0, 0) := by
  unfold fX12_nameOf_75 at hf
  refine r_istore_n (lv' := [(2, .int s0), (0, .ref v0), (1, .int v1), (3, .int v3)]) (dGet dX12_nameOf (j := 45) rfl) (by decide) rfl ?_
  refine r_iinc (lv' := [(3, .int (v3 + (1 : Int32))), (2, .int s0), (0, .ref v0), (1, .int v1)]) (dGet dX12_nameOf (j := 46) rfl) rfl (by decide) kI_1 rfl ?_
  refine r_goto (dGet dX12_nameOf (j := 47) rfl) rfl ?_
  refine Run.weak [(0, .ref v0), (1, .int v1), (2, .int s0), (3, .int (v3 + (1 : Int32)))] (by simp) (by simp [pNd]) ?_
  exact K31 v0 v1 s0 (v3 + (1 : Int32)) h q hf nv0
def fX12_nameOf_31 (N : Nat) (k2 : Nat → Int32 → pH → Option (Int32 × pH)) : Nat → Nat → Int32 → Int32 → Int32 → pH → Option (Int32 × pH)
  | 0, _, _, _, _, _ => none
  | n + 1, v0, v1, v2, v3, h => (getI h v0 12 7).bind fun t2 =>
  if t2 ≤ v3 then (
  fX12_nameOf_82 N k2 v0 v1 v2 h) else (
  if v2 = 0 then (
  fX12_nameOf_82 N k2 v0 v1 v2 h) else (
  (getR h v0 12 2).bind fun t5 =>
  (getR h v0 12 12).bind fun t6 =>
  (ldI h t6 v1).bind fun t7 =>
  (ldI h t5 (t7 + v3)).bind fun t8 =>
  (getR h v0 12 2).bind fun t9 =>
  (getI h v0 12 6).bind fun t10 =>
  (ldI h t9 (t10 + v3)).bind fun t11 =>
  if t8 = t11 then (
  fX12_nameOf_75 N k2 (fX12_nameOf_31 N k2 n) v0 v1 v3 (1 : Int32) h) else (
  fX12_nameOf_75 N k2 (fX12_nameOf_31 N k2 n) v0 v1 v3 (0 : Int32) h)))
theorem lX12_nameOf_31 (X : pX) (N d : Nat)  (k2 : Nat → Int32 → pH → Option (Int32 × pH)) (K2 : ∀ (w0 : Nat) (w1 : Int32) (h : pH) (q : Int32 × pH), k2 w0 w1 h = some q → ¬ w0 = 4 → Run X (d + 0) 12 false (pCd 8144) 4 (some .int) 2 [(0, .ref w0), (1, .int w1)] [] h 0 0 (some (.int q.1), q.2, 0, 0)) : ∀ (n : Nat) (v0 : Nat) (v1 : Int32) (v2 : Int32) (v3 : Int32) (h : pH) (q : Int32 × pH), fX12_nameOf_31 N k2 n v0 v1 v2 v3 h = some q → ¬ v0 = 4 → Run X (d + 0) 12 false (pCd 8144) 4 (some .int) 31 [(0, .ref v0), (1, .int v1), (2, .int v2), (3, .int v3)] [] h 0 0 (some (.int q.1), q.2, 0, 0) := by
  intro n
  induction n with
  | zero => intro v0 v1 v2 v3 h q hf; cases hf
  | succ n ih =>
    intro v0 v1 v2 v3 h q hf nv0
    unfold fX12_nameOf_31 at hf
    refine r_iload_n (dGet dX12_nameOf (j := 19) rfl) rfl ?_
    refine r_aload_n (dGet dX12_nameOf (j := 20) rfl) nv0 rfl ?_
    obtain ⟨t2, et2, hf⟩ := Option.bind_eq_some_iff.mp hf
    refine r_getI (dGet dX12_nameOf (j := 21) rfl) F12_243 et2 ?_
    by_cases c3 : t2 ≤ v3
    · rw [if_pos c3] at hf
      refine r_icmp_ge_t (dGet dX12_nameOf (j := 22) rfl) rfl c3 ?_
      refine Run.weak [(0, .ref v0), (1, .int v1), (2, .int v2)] (by simp) (by simp [pNd]) ?_
      exact lX12_nameOf_82 X N d k2 K2 v0 v1 v2 h q hf nv0
    · rw [if_neg c3] at hf
      refine r_icmp_ge_f (dGet dX12_nameOf (j := 22) rfl) rfl c3 ?_
      refine r_iload_n (dGet dX12_nameOf (j := 23) rfl) rfl ?_
      by_cases c4 : v2 = 0
      · rw [if_pos c4] at hf
        refine r_if_eq_t (dGet dX12_nameOf (j := 24) rfl) rfl c4 ?_
        refine Run.weak [(0, .ref v0), (1, .int v1), (2, .int v2)] (by simp) (by simp [pNd]) ?_
        exact lX12_nameOf_82 X N d k2 K2 v0 v1 v2 h q hf nv0
      · rw [if_neg c4] at hf
        refine r_if_eq_f (dGet dX12_nameOf (j := 24) rfl) rfl c4 ?_
        refine r_aload_n (dGet dX12_nameOf (j := 25) rfl) nv0 rfl ?_
        obtain ⟨t5, et5, hf⟩ := Option.bind_eq_some_iff.mp hf
        refine r_getR (dGet dX12_nameOf (j := 26) rfl) F12_13 et5 ?_
        refine r_aload_n (dGet dX12_nameOf (j := 27) rfl) nv0 rfl ?_
        obtain ⟨t6, et6, hf⟩ := Option.bind_eq_some_iff.mp hf
        refine r_getR (dGet dX12_nameOf (j := 28) rfl) F12_16 et6 ?_
        refine r_iload_n (dGet dX12_nameOf (j := 29) rfl) rfl ?_
        obtain ⟨t7, et7, hf⟩ := Option.bind_eq_some_iff.mp hf
        refine r_iald (dGet dX12_nameOf (j := 30) rfl) et7 ?_
        refine r_iload_n (dGet dX12_nameOf (j := 31) rfl) rfl ?_
        refine r_iadd (dGet dX12_nameOf (j := 32) rfl) ?_
        obtain ⟨t8, et8, hf⟩ := Option.bind_eq_some_iff.mp hf
        refine r_iald (dGet dX12_nameOf (j := 33) rfl) et8 ?_
        refine r_aload_n (dGet dX12_nameOf (j := 34) rfl) nv0 rfl ?_
        obtain ⟨t9, et9, hf⟩ := Option.bind_eq_some_iff.mp hf
        refine r_getR (dGet dX12_nameOf (j := 35) rfl) F12_13 et9 ?_
        refine r_aload_n (dGet dX12_nameOf (j := 36) rfl) nv0 rfl ?_
        obtain ⟨t10, et10, hf⟩ := Option.bind_eq_some_iff.mp hf
        refine r_getI (dGet dX12_nameOf (j := 37) rfl) F12_246 et10 ?_
        refine r_iload_n (dGet dX12_nameOf (j := 38) rfl) rfl ?_
        refine r_iadd (dGet dX12_nameOf (j := 39) rfl) ?_
        obtain ⟨t11, et11, hf⟩ := Option.bind_eq_some_iff.mp hf
        refine r_iald (dGet dX12_nameOf (j := 40) rfl) et11 ?_
        by_cases c12 : t8 = t11
        · rw [if_pos c12] at hf
          refine r_icmp_ne_f (dGet dX12_nameOf (j := 41) rfl) rfl c12 ?_
          refine r_iconst (dGet dX12_nameOf (j := 42) rfl) kI_1 ?_
          refine r_goto (dGet dX12_nameOf (j := 43) rfl) rfl ?_
          refine Run.weak [(0, .ref v0), (1, .int v1), (3, .int v3)] (by simp) (by simp [pNd]) ?_
          exact lX12_nameOf_75 X N d k2 K2 (fX12_nameOf_31 N k2 n) ih v0 v1 v3 (1 : Int32) h q hf nv0
        · rw [if_neg c12] at hf
          refine r_icmp_ne_t (dGet dX12_nameOf (j := 41) rfl) rfl c12 ?_
          refine r_iconst (dGet dX12_nameOf (j := 44) rfl) kI_0 ?_
          refine Run.weak [(0, .ref v0), (1, .int v1), (3, .int v3)] (by simp) (by simp [pNd]) ?_
          exact lX12_nameOf_75 X N d k2 K2 (fX12_nameOf_31 N k2 n) ih v0 v1 v3 (0 : Int32) h q hf nv0
def fX12_nameOf_28 (N : Nat) (k2 : Nat → Int32 → pH → Option (Int32 × pH)) (v0 : Nat) (v1 : Int32) (s0 : Int32) (h : pH) : Option (Int32 × pH) :=
  fX12_nameOf_31 N k2 N v0 v1 s0 (0 : Int32) h
theorem lX12_nameOf_28 (X : pX) (N d : Nat)  (k2 : Nat → Int32 → pH → Option (Int32 × pH)) (K2 : ∀ (w0 : Nat) (w1 : Int32) (h : pH) (q : Int32 × pH), k2 w0 w1 h = some q → ¬ w0 = 4 → Run X (d + 0) 12 false (pCd 8144) 4 (some .int) 2 [(0, .ref w0), (1, .int w1)] [] h 0 0 (some (.int q.1), q.2, 0, 0)) (v0 : Nat) (v1 : Int32) (s0 : Int32) (h : pH) (q : Int32 × pH) (hf : fX12_nameOf_28 N k2 v0 v1 s0 h = some q) (nv0 : ¬ v0 = 4) : Run X (d + 0) 12 false (pCd 8144) 4 (some .int) 28 [(0, .ref v0), (1, .int v1)] [.int s0] h 0 0 (some (.int q.1), q.2, 0, 0) := by
  unfold fX12_nameOf_28 at hf
  refine r_istore_n (lv' := [(2, .int s0), (0, .ref v0), (1, .int v1)]) (dGet dX12_nameOf (j := 16) rfl) (by decide) rfl ?_
  refine r_iconst (dGet dX12_nameOf (j := 17) rfl) kI_0 ?_
  refine r_istore_n (lv' := [(3, .int (0 : Int32)), (2, .int s0), (0, .ref v0), (1, .int v1)]) (dGet dX12_nameOf (j := 18) rfl) (by decide) rfl ?_
  refine Run.weak [(0, .ref v0), (1, .int v1), (2, .int s0), (3, .int (0 : Int32))] (by simp) (by simp [pNd]) ?_
  exact lX12_nameOf_31 X N d k2 K2 N v0 v1 s0 (0 : Int32) h q hf nv0
def fX12_nameOf_2 (N : Nat) : Nat → Nat → Int32 → pH → Option (Int32 × pH)
  | 0, _, _, _ => none
  | n + 1, v0, v1, h => (getI h v0 12 11).bind fun t13 =>
  if t13 ≤ v1 then (
  (getR h v0 12 12).bind fun t15 =>
  (getI h v0 12 11).bind fun t16 =>
  (getI h v0 12 6).bind fun t17 =>
  (stI h t15 t16 t17).bind fun h18 =>
  (getR h18 v0 12 13).bind fun t19 =>
  (getI h18 v0 12 11).bind fun t20 =>
  (getI h18 v0 12 7).bind fun t21 =>
  (stI h18 t19 t20 t21).bind fun h22 =>
  (getI h22 v0 12 11).bind fun t23 =>
  (putI h22 v0 12 11 (t23 + (1 : Int32))).bind fun h24 =>
  (getI h24 v0 12 11).bind fun t25 =>
  some ((t25 - (1 : Int32)), h24)) else (
  (getR h v0 12 13).bind fun t26 =>
  (ldI h t26 v1).bind fun t27 =>
  (getI h v0 12 7).bind fun t28 =>
  if t27 = t28 then (
  fX12_nameOf_28 N (fX12_nameOf_2 N n) v0 v1 (1 : Int32) h) else (
  fX12_nameOf_28 N (fX12_nameOf_2 N n) v0 v1 (0 : Int32) h))
theorem lX12_nameOf_2 (X : pX) (N d : Nat)  : ∀ (n : Nat) (v0 : Nat) (v1 : Int32) (h : pH) (q : Int32 × pH), fX12_nameOf_2 N n v0 v1 h = some q → ¬ v0 = 4 → Run X (d + 0) 12 false (pCd 8144) 4 (some .int) 2 [(0, .ref v0), (1, .int v1)] [] h 0 0 (some (.int q.1), q.2, 0, 0) := by
  intro n
  induction n with
  | zero => intro v0 v1 h q hf; cases hf
  | succ n ih =>
    intro v0 v1 h q hf nv0
    unfold fX12_nameOf_2 at hf
    refine r_iload_n (dGet dX12_nameOf (j := 2) rfl) rfl ?_
    refine r_aload_n (dGet dX12_nameOf (j := 3) rfl) nv0 rfl ?_
    obtain ⟨t13, et13, hf⟩ := Option.bind_eq_some_iff.mp hf
    refine r_getI (dGet dX12_nameOf (j := 4) rfl) F12_221 et13 ?_
    by_cases c14 : t13 ≤ v1
    · rw [if_pos c14] at hf
      refine r_icmp_ge_t (dGet dX12_nameOf (j := 5) rfl) rfl c14 ?_
      refine r_aload_n (dGet dX12_nameOf (j := 54) rfl) nv0 rfl ?_
      obtain ⟨t15, et15, hf⟩ := Option.bind_eq_some_iff.mp hf
      refine r_getR (dGet dX12_nameOf (j := 55) rfl) F12_16 et15 ?_
      refine r_aload_n (dGet dX12_nameOf (j := 56) rfl) nv0 rfl ?_
      obtain ⟨t16, et16, hf⟩ := Option.bind_eq_some_iff.mp hf
      refine r_getI (dGet dX12_nameOf (j := 57) rfl) F12_221 et16 ?_
      refine r_aload_n (dGet dX12_nameOf (j := 58) rfl) nv0 rfl ?_
      obtain ⟨t17, et17, hf⟩ := Option.bind_eq_some_iff.mp hf
      refine r_getI (dGet dX12_nameOf (j := 59) rfl) F12_246 et17 ?_
      obtain ⟨h18, eh18, hf⟩ := Option.bind_eq_some_iff.mp hf
      refine r_iast (dGet dX12_nameOf (j := 60) rfl) eh18 ?_
      refine r_aload_n (dGet dX12_nameOf (j := 61) rfl) nv0 rfl ?_
      obtain ⟨t19, et19, hf⟩ := Option.bind_eq_some_iff.mp hf
      refine r_getR (dGet dX12_nameOf (j := 62) rfl) F12_19 et19 ?_
      refine r_aload_n (dGet dX12_nameOf (j := 63) rfl) nv0 rfl ?_
      obtain ⟨t20, et20, hf⟩ := Option.bind_eq_some_iff.mp hf
      refine r_getI (dGet dX12_nameOf (j := 64) rfl) F12_221 et20 ?_
      refine r_aload_n (dGet dX12_nameOf (j := 65) rfl) nv0 rfl ?_
      obtain ⟨t21, et21, hf⟩ := Option.bind_eq_some_iff.mp hf
      refine r_getI (dGet dX12_nameOf (j := 66) rfl) F12_243 et21 ?_
      obtain ⟨h22, eh22, hf⟩ := Option.bind_eq_some_iff.mp hf
      refine r_iast (dGet dX12_nameOf (j := 67) rfl) eh22 ?_
      refine r_aload_n (dGet dX12_nameOf (j := 68) rfl) nv0 rfl ?_
      refine r_dup (dGet dX12_nameOf (j := 69) rfl) rfl ?_
      obtain ⟨t23, et23, hf⟩ := Option.bind_eq_some_iff.mp hf
      refine r_getI (dGet dX12_nameOf (j := 70) rfl) F12_221 et23 ?_
      refine r_iconst (dGet dX12_nameOf (j := 71) rfl) kI_1 ?_
      refine r_iadd (dGet dX12_nameOf (j := 72) rfl) ?_
      obtain ⟨h24, eh24, hf⟩ := Option.bind_eq_some_iff.mp hf
      refine r_putI (dGet dX12_nameOf (j := 73) rfl) F12_221 rfl rfl eh24 ?_
      refine r_aload_n (dGet dX12_nameOf (j := 74) rfl) nv0 rfl ?_
      obtain ⟨t25, et25, hf⟩ := Option.bind_eq_some_iff.mp hf
      refine r_getI (dGet dX12_nameOf (j := 75) rfl) F12_221 et25 ?_
      refine r_iconst (dGet dX12_nameOf (j := 76) rfl) kI_1 ?_
      refine r_isub (dGet dX12_nameOf (j := 77) rfl) ?_
      have hq := Option.some.inj hf
      subst hq
      exact r_iret (dGet dX12_nameOf (j := 78) rfl) rfl rfl
    · rw [if_neg c14] at hf
      refine r_icmp_ge_f (dGet dX12_nameOf (j := 5) rfl) rfl c14 ?_
      refine r_aload_n (dGet dX12_nameOf (j := 6) rfl) nv0 rfl ?_
      obtain ⟨t26, et26, hf⟩ := Option.bind_eq_some_iff.mp hf
      refine r_getR (dGet dX12_nameOf (j := 7) rfl) F12_19 et26 ?_
      refine r_iload_n (dGet dX12_nameOf (j := 8) rfl) rfl ?_
      obtain ⟨t27, et27, hf⟩ := Option.bind_eq_some_iff.mp hf
      refine r_iald (dGet dX12_nameOf (j := 9) rfl) et27 ?_
      refine r_aload_n (dGet dX12_nameOf (j := 10) rfl) nv0 rfl ?_
      obtain ⟨t28, et28, hf⟩ := Option.bind_eq_some_iff.mp hf
      refine r_getI (dGet dX12_nameOf (j := 11) rfl) F12_243 et28 ?_
      by_cases c29 : t27 = t28
      · rw [if_pos c29] at hf
        refine r_icmp_ne_f (dGet dX12_nameOf (j := 12) rfl) rfl c29 ?_
        refine r_iconst (dGet dX12_nameOf (j := 13) rfl) kI_1 ?_
        refine r_goto (dGet dX12_nameOf (j := 14) rfl) rfl ?_
        exact lX12_nameOf_28 X N d (fX12_nameOf_2 N n) ih v0 v1 (1 : Int32) h q hf nv0
      · rw [if_neg c29] at hf
        refine r_icmp_ne_t (dGet dX12_nameOf (j := 12) rfl) rfl c29 ?_
        refine r_iconst (dGet dX12_nameOf (j := 15) rfl) kI_0 ?_
        exact lX12_nameOf_28 X N d (fX12_nameOf_2 N n) ih v0 v1 (0 : Int32) h q hf nv0
def fX12_nameOf (N : Nat) (v0 : Nat) (h : pH) : Option (Int32 × pH) := if isO h v0 12 = true then (
  fX12_nameOf_2 N N v0 (0 : Int32) h) else none
theorem oX12_nameOf {N : Nat} {v0 : Nat} {h : pH} {q : Int32 × pH} (hf : fX12_nameOf N v0 h = some q) : isO h v0 12 = true := by
  unfold fX12_nameOf at hf
  by_cases hc : isO h v0 12 = true
  · exact hc
  · rw [if_neg hc] at hf; cases hf
theorem cX12_nameOf (X : pX) (N d : Nat) (v0 : Nat) (h : pH) (q : Int32 × pH) (hf : fX12_nameOf N v0 h = some q) : Calls X (d + 0) 240 [.ref v0] h (some (.int q.1), q.2, 0, 0) := by
  refine Calls.of M240 (Nat.le_of_ble_eq_true rfl) ?_
  show Run X (d + 0) 12 false (pCd 8144) 4 (some .int) 0 [(0, .ref v0)] [] h 0 0 (some (.int q.1), q.2, 0, 0)
  unfold fX12_nameOf at hf
  by_cases hc : isO h v0 12 = true
  · rw [if_pos hc] at hf
    have nv0 : ¬ v0 = 4 := isO_ne hc
    refine r_iconst (dGet dX12_nameOf (j := 0) rfl) kI_0 ?_
    refine r_istore_n (lv' := [(1, .int (0 : Int32)), (0, .ref v0)]) (dGet dX12_nameOf (j := 1) rfl) (by decide) rfl ?_
    refine Run.weak [(0, .ref v0), (1, .int (0 : Int32))] (by simp) (by simp [pNd]) ?_
    exact lX12_nameOf_2 X N d N v0 (0 : Int32) h q hf nv0
  · rw [if_neg hc] at hf; cases hf
def eX12_next : List (Nat × Instr × Nat) := [(0, .aload_n 0, 1), (1, .getfield 253, 3), (4, .aload_n 0, 1), (5, .getfield 240, 3), (8, .if_icmp .ge 44, 3), (11, .aload_n 0, 1), (12, .getfield 13, 3), (15, .aload_n 0, 1), (16, .getfield 253, 3), (19, .iaload, 1), (20, .bipush 32, 2), (22, .if_icmp .eq 17, 3), (25, .aload_n 0, 1), (26, .getfield 13, 3), (29, .aload_n 0, 1), (30, .getfield 253, 3), (33, .iaload, 1), (34, .bipush 10, 2), (36, .if_icmp .ne 16, 3), (39, .aload_n 0, 1), (40, .dup, 1), (41, .getfield 253, 3), (44, .iconst 1, 1), (45, .iadd, 1), (46, .putfield 253, 3), (49, .goto (-49), 3), (52, .aload_n 0, 1), (53, .aload_n 0, 1), (54, .getfield 253, 3), (57, .putfield 246, 3), (60, .aload_n 0, 1), (61, .iconst 0, 1), (62, .putfield 243, 3), (65, .aload_n 0, 1), (66, .iconst 0, 1), (67, .putfield 256, 3), (70, .aload_n 0, 1), (71, .aload_n 0, 1), (72, .getfield 253, 3), (75, .invokevirtual 259, 3), (78, .istore_n 1, 1), (79, .aload_n 0, 1), (80, .aload_n 0, 1), (81, .getfield 253, 3), (84, .iconst 1, 1), (85, .iadd, 1), (86, .invokevirtual 259, 3), (89, .istore_n 2, 1), (90, .aload_n 0, 1), (91, .getfield 253, 3), (94, .aload_n 0, 1), (95, .getfield 240, 3), (98, .if_icmp .ne 11, 3), (101, .aload_n 0, 1), (102, .iconst 0, 1), (103, .putfield 263, 3), (106, .goto 346, 3), (109, .iload_n 1, 1), (110, .invokestatic 266, 3), (113, .ifCond .eq 115, 3), (116, .aload_n 0, 1), (117, .getfield 246, 3), (120, .aload_n 0, 1), (121, .getfield 243, 3), (124, .iadd, 1), (125, .aload_n 0, 1), (126, .getfield 240, 3), (129, .if_icmp .ge 56, 3), (132, .aload_n 0, 1), (133, .getfield 13, 3), (136, .aload_n 0, 1), (137, .getfield 246, 3), (140, .aload_n 0, 1), (141, .getfield 243, 3), (144, .iadd, 1), (145, .iaload, 1), (146, .invokestatic 266, 3), (149, .ifCond .ne 23, 3), (152, .aload_n 0, 1), (153, .getfield 13, 3), (156, .aload_n 0, 1), (157, .getfield 246, 3), (160, .aload_n 0, 1), (161, .getfield 243, 3), (164, .iadd, 1), (165, .iaload, 1), (166, .invokestatic 270, 3), (169, .ifCond .eq 16, 3), (172, .aload_n 0, 1), (173, .dup, 1), (174, .getfield 243, 3), (177, .iconst 1, 1), (178, .iadd, 1), (179, .putfield 243, 3), (182, .goto (-66), 3), (185, .aload_n 0, 1), (186, .aload_n 0, 1), (187, .invokevirtual 273, 3), (190, .putfield 256, 3), (193, .aload_n 0, 1), (194, .aload_n 0, 1), (195, .getfield 256, 3), (198, .ifCond .le 7, 3), (201, .iconst 5, 1), (202, .goto 4, 3), (205, .iconst 2, 1), (206, .putfield 263, 3), (209, .aload_n 0, 1), (210, .getfield 263, 3), (213, .iconst 2, 1), (214, .if_icmp .ne 238, 3), (217, .aload_n 0, 1), (218, .aload_n 0, 1), (219, .invokevirtual 277, 3), (222, .putfield 256, 3), (225, .goto 227, 3), (228, .iload_n 1, 1), (229, .invokestatic 270, 3), (232, .ifCond .eq 123, 3), (235, .aload_n 0, 1), (236, .getfield 246, 3), (239, .aload_n 0, 1), (240, .getfield 243, 3), (243, .iadd, 1), (244, .aload_n 0, 1), (245, .getfield 240, 3), (248, .if_icmp .ge 36, 3), (251, .aload_n 0, 1), (252, .getfield 13, 3), (255, .aload_n 0, 1), (256, .getfield 246, 3), (259, .aload_n 0, 1), (260, .getfield 243, 3), (263, .iadd, 1), (264, .iaload, 1), (265, .invokestatic 270, 3), (268, .ifCond .eq 16, 3), (271, .aload_n 0, 1), (272, .dup, 1), (273, .getfield 243, 3), (276, .iconst 1, 1), (277, .iadd, 1), (278, .putfield 243, 3), (281, .goto (-46), 3), (284, .aload_n 0, 1), (285, .aload_n 0, 1), (286, .getfield 243, 3), (289, .bipush 9, 2), (291, .if_icmp .le 7, 3), (294, .iconst 1, 1), (295, .goto 4, 3), (298, .iconst 3, 1), (299, .putfield 263, 3), (302, .iconst 0, 1), (303, .istore_n 3, 1), (304, .iload_n 3, 1), (305, .aload_n 0, 1), (306, .getfield 243, 3), (309, .if_icmp .ge 43, 3), (312, .aload_n 0, 1), (313, .getfield 263, 3), (316, .iconst 3, 1), (317, .if_icmp .ne 35, 3), (320, .aload_n 0, 1), (321, .bipush 10, 2), (323, .aload_n 0, 1), (324, .getfield 256, 3), (327, .imul, 1), (328, .aload_n 0, 1), (329, .getfield 13, 3), (332, .aload_n 0, 1), (333, .getfield 246, 3), (336, .iload_n 3, 1), (337, .iadd, 1), (338, .iaload, 1), (339, .iadd, 1), (340, .bipush 48, 2), (342, .isub, 1), (343, .putfield 256, 3), (346, .iinc 3 1, 3), (349, .goto (-45), 3), (352, .goto 100, 3), (355, .iload_n 2, 1), (356, .bipush 61, 2), (358, .if_icmp .ne 21, 3), (361, .iload_n 1, 1), (362, .bipush 61, 2), (364, .if_icmp .eq 32, 3), (367, .iload_n 1, 1), (368, .bipush 33, 2), (370, .if_icmp .eq 26, 3), (373, .iload_n 1, 1), (374, .bipush 60, 2), (376, .if_icmp .eq 20, 3), (379, .iload_n 1, 1), (380, .iload_n 2, 1), (381, .if_icmp .ne 19, 3), (384, .iload_n 1, 1), (385, .bipush 38, 2), (387, .if_icmp .eq 9, 3), (390, .iload_n 1, 1), (391, .bipush 124, 2), (393, .if_icmp .ne 7, 3), (396, .iconst 1, 1), (397, .goto 4, 3), (400, .iconst 0, 1), (401, .istore_n 3, 1), (402, .aload_n 0, 1), (403, .iload_n 3, 1), (404, .ifCond .eq 7, 3), (407, .iconst 2, 1), (408, .goto 4, 3), (411, .iconst 1, 1), (412, .putfield 243, 3), (415, .aload_n 0, 1), (416, .iload_n 3, 1), (417, .ifCond .eq 11, 3), (420, .iload_n 1, 1), (421, .sipush 256, 3), (424, .iadd, 1), (425, .goto 4, 3), (428, .iload_n 1, 1), (429, .putfield 256, 3), (432, .aload_n 0, 1), (433, .iload_n 3, 1), (434, .ifCond .ne 10, 3), (437, .iload_n 1, 1), (438, .invokestatic 280, 3), (441, .ifCond .eq 7, 3), (444, .iconst 4, 1), (445, .goto 4, 3), (448, .iconst 1, 1), (449, .putfield 263, 3), (452, .aload_n 0, 1), (453, .aload_n 0, 1), (454, .getfield 246, 3), (457, .aload_n 0, 1), (458, .getfield 243, 3), (461, .iadd, 1), (462, .putfield 253, 3), (465, .return_, 1)]
theorem dX12_next : dChk (pCd 8113) eX12_next = true := by decide +kernel
def fX12_next_452 (N : Nat) (v0 : Nat) (h : pH) : Option (pH) :=
  (getI h v0 12 6).bind fun t1 =>
  (getI h v0 12 7).bind fun t2 =>
  (putI h v0 12 4 (t1 + t2)).bind fun h3 =>
  some h3
theorem lX12_next_452 (X : pX) (N d : Nat)  (v0 : Nat) (h : pH) (q : pH) (hf : fX12_next_452 N v0 h = some q) (nv0 : ¬ v0 = 4) : Run X (d + 2) 12 false (pCd 8113) 4 none 452 [(0, .ref v0)] [] h 0 0 (none, q, 0, 0) := by
  unfold fX12_next_452 at hf
  refine r_aload_n (dGet dX12_next (j := 233) rfl) nv0 rfl ?_
  refine r_aload_n (dGet dX12_next (j := 234) rfl) nv0 rfl ?_
  obtain ⟨t1, et1, hf⟩ := Option.bind_eq_some_iff.mp hf
  refine r_getI (dGet dX12_next (j := 235) rfl) F12_246 et1 ?_
  refine r_aload_n (dGet dX12_next (j := 236) rfl) nv0 rfl ?_
  obtain ⟨t2, et2, hf⟩ := Option.bind_eq_some_iff.mp hf
  refine r_getI (dGet dX12_next (j := 237) rfl) F12_243 et2 ?_
  refine r_iadd (dGet dX12_next (j := 238) rfl) ?_
  obtain ⟨h3, eh3, hf⟩ := Option.bind_eq_some_iff.mp hf
  refine r_putI (dGet dX12_next (j := 239) rfl) F12_253 rfl rfl eh3 ?_
  have hq := Option.some.inj hf
  subst hq
  exact r_vret (dGet dX12_next (j := 240) rfl) rfl
def fX12_next_449 (N : Nat) (v0 : Nat) (s0 : Nat) (s1 : Int32) (h : pH) : Option (pH) :=
  (putI h s0 12 5 s1).bind fun h4 =>
  fX12_next_452 N v0 h4
theorem lX12_next_449 (X : pX) (N d : Nat)  (v0 : Nat) (s0 : Nat) (s1 : Int32) (h : pH) (q : pH) (hf : fX12_next_449 N v0 s0 s1 h = some q) (nv0 : ¬ v0 = 4) (ns0 : ¬ s0 = 4) : Run X (d + 2) 12 false (pCd 8113) 4 none 449 [(0, .ref v0)] [.int s1, .ref s0] h 0 0 (none, q, 0, 0) := by
  unfold fX12_next_449 at hf
  obtain ⟨h4, eh4, hf⟩ := Option.bind_eq_some_iff.mp hf
  refine r_putI (dGet dX12_next (j := 232) rfl) F12_263 rfl rfl eh4 ?_
  exact lX12_next_452 X N d v0 h4 q hf nv0
def fX12_next_444 (N : Nat) (v0 : Nat) (s0 : Nat) (h : pH) : Option (pH) :=
  fX12_next_449 N v0 s0 (4 : Int32) h
theorem lX12_next_444 (X : pX) (N d : Nat)  (v0 : Nat) (s0 : Nat) (h : pH) (q : pH) (hf : fX12_next_444 N v0 s0 h = some q) (nv0 : ¬ v0 = 4) (ns0 : ¬ s0 = 4) : Run X (d + 2) 12 false (pCd 8113) 4 none 444 [(0, .ref v0)] [.ref s0] h 0 0 (none, q, 0, 0) := by
  unfold fX12_next_444 at hf
  refine r_iconst (dGet dX12_next (j := 229) rfl) kI_4 ?_
  refine r_goto (dGet dX12_next (j := 230) rfl) rfl ?_
  exact lX12_next_449 X N d v0 s0 (4 : Int32) h q hf nv0 ns0
def fX12_next_429 (N : Nat) (v0 : Nat) (v1 : Int32) (v3 : Int32) (s0 : Nat) (s1 : Int32) (h : pH) : Option (pH) :=
  (putI h s0 12 8 s1).bind fun h5 =>
  if v3 = 0 then (
  (fX12_isSignByte N v1 h5).bind fun q7 =>
  if q7.1 = 0 then (
  fX12_next_449 N v0 v0 (1 : Int32) q7.2) else (
  fX12_next_444 N v0 v0 q7.2)) else (
  fX12_next_444 N v0 v0 h5)
theorem lX12_next_429 (X : pX) (N d : Nat)  (v0 : Nat) (v1 : Int32) (v3 : Int32) (s0 : Nat) (s1 : Int32) (h : pH) (q : pH) (hf : fX12_next_429 N v0 v1 v3 s0 s1 h = some q) (nv0 : ¬ v0 = 4) (ns0 : ¬ s0 = 4) : Run X (d + 2) 12 false (pCd 8113) 4 none 429 [(0, .ref v0), (1, .int v1), (3, .int v3)] [.int s1, .ref s0] h 0 0 (none, q, 0, 0) := by
  unfold fX12_next_429 at hf
  obtain ⟨h5, eh5, hf⟩ := Option.bind_eq_some_iff.mp hf
  refine r_putI (dGet dX12_next (j := 222) rfl) F12_256 rfl rfl eh5 ?_
  refine r_aload_n (dGet dX12_next (j := 223) rfl) nv0 rfl ?_
  refine r_iload_n (dGet dX12_next (j := 224) rfl) rfl ?_
  by_cases c6 : v3 = 0
  · rw [if_pos c6] at hf
    refine r_if_ne_f (dGet dX12_next (j := 225) rfl) rfl c6 ?_
    refine r_iload_n (dGet dX12_next (j := 226) rfl) rfl ?_
    obtain ⟨q7, eq7, hf⟩ := Option.bind_eq_some_iff.mp hf
    refine r_static (dGet dX12_next (j := 227) rfl) (by decide +kernel) (by decide +kernel) L12_280 M241 rfl rfl (Nat.le_of_ble_eq_true rfl) (cX12_isSignByte X N (d + 1) v1 h5 q7 eq7) ?_
    by_cases c8 : q7.1 = 0
    · rw [if_pos c8] at hf
      refine r_if_eq_t (dGet dX12_next (j := 228) rfl) rfl c8 ?_
      refine r_iconst (dGet dX12_next (j := 231) rfl) kI_1 ?_
      refine Run.weak [(0, .ref v0)] (by simp) (by simp [pNd]) ?_
      exact lX12_next_449 X N d v0 v0 (1 : Int32) q7.2 q hf nv0 nv0
    · rw [if_neg c8] at hf
      refine r_if_eq_f (dGet dX12_next (j := 228) rfl) rfl c8 ?_
      refine Run.weak [(0, .ref v0)] (by simp) (by simp [pNd]) ?_
      exact lX12_next_444 X N d v0 v0 q7.2 q hf nv0 nv0
  · rw [if_neg c6] at hf
    refine r_if_ne_t (dGet dX12_next (j := 225) rfl) rfl c6 ?_
    refine Run.weak [(0, .ref v0)] (by simp) (by simp [pNd]) ?_
    exact lX12_next_444 X N d v0 v0 h5 q hf nv0 nv0
def fX12_next_412 (N : Nat) (v0 : Nat) (v1 : Int32) (v3 : Int32) (s0 : Nat) (s1 : Int32) (h : pH) : Option (pH) :=
  (putI h s0 12 7 s1).bind fun h9 =>
  if v3 = 0 then (
  fX12_next_429 N v0 v1 v3 v0 v1 h9) else (
  fX12_next_429 N v0 v1 v3 v0 (v1 + (256 : Int32)) h9)
theorem lX12_next_412 (X : pX) (N d : Nat)  (v0 : Nat) (v1 : Int32) (v3 : Int32) (s0 : Nat) (s1 : Int32) (h : pH) (q : pH) (hf : fX12_next_412 N v0 v1 v3 s0 s1 h = some q) (nv0 : ¬ v0 = 4) (ns0 : ¬ s0 = 4) : Run X (d + 2) 12 false (pCd 8113) 4 none 412 [(0, .ref v0), (1, .int v1), (3, .int v3)] [.int s1, .ref s0] h 0 0 (none, q, 0, 0) := by
  unfold fX12_next_412 at hf
  obtain ⟨h9, eh9, hf⟩ := Option.bind_eq_some_iff.mp hf
  refine r_putI (dGet dX12_next (j := 213) rfl) F12_243 rfl rfl eh9 ?_
  refine r_aload_n (dGet dX12_next (j := 214) rfl) nv0 rfl ?_
  refine r_iload_n (dGet dX12_next (j := 215) rfl) rfl ?_
  by_cases c10 : v3 = 0
  · rw [if_pos c10] at hf
    refine r_if_eq_t (dGet dX12_next (j := 216) rfl) rfl c10 ?_
    refine r_iload_n (dGet dX12_next (j := 221) rfl) rfl ?_
    exact lX12_next_429 X N d v0 v1 v3 v0 v1 h9 q hf nv0 nv0
  · rw [if_neg c10] at hf
    refine r_if_eq_f (dGet dX12_next (j := 216) rfl) rfl c10 ?_
    refine r_iload_n (dGet dX12_next (j := 217) rfl) rfl ?_
    refine r_sipush (dGet dX12_next (j := 218) rfl) kS_256 ?_
    refine r_iadd (dGet dX12_next (j := 219) rfl) ?_
    refine r_goto (dGet dX12_next (j := 220) rfl) rfl ?_
    exact lX12_next_429 X N d v0 v1 v3 v0 (v1 + (256 : Int32)) h9 q hf nv0 nv0
def fX12_next_401 (N : Nat) (v0 : Nat) (v1 : Int32) (s0 : Int32) (h : pH) : Option (pH) :=
  if s0 = 0 then (
  fX12_next_412 N v0 v1 s0 v0 (1 : Int32) h) else (
  fX12_next_412 N v0 v1 s0 v0 (2 : Int32) h)
theorem lX12_next_401 (X : pX) (N d : Nat)  (v0 : Nat) (v1 : Int32) (s0 : Int32) (h : pH) (q : pH) (hf : fX12_next_401 N v0 v1 s0 h = some q) (nv0 : ¬ v0 = 4) : Run X (d + 2) 12 false (pCd 8113) 4 none 401 [(0, .ref v0), (1, .int v1)] [.int s0] h 0 0 (none, q, 0, 0) := by
  unfold fX12_next_401 at hf
  refine r_istore_n (lv' := [(3, .int s0), (0, .ref v0), (1, .int v1)]) (dGet dX12_next (j := 206) rfl) (by decide) rfl ?_
  refine r_aload_n (dGet dX12_next (j := 207) rfl) nv0 rfl ?_
  refine r_iload_n (dGet dX12_next (j := 208) rfl) rfl ?_
  by_cases c11 : s0 = 0
  · rw [if_pos c11] at hf
    refine r_if_eq_t (dGet dX12_next (j := 209) rfl) rfl c11 ?_
    refine r_iconst (dGet dX12_next (j := 212) rfl) kI_1 ?_
    refine Run.weak [(0, .ref v0), (1, .int v1), (3, .int s0)] (by simp) (by simp [pNd]) ?_
    exact lX12_next_412 X N d v0 v1 s0 v0 (1 : Int32) h q hf nv0 nv0
  · rw [if_neg c11] at hf
    refine r_if_eq_f (dGet dX12_next (j := 209) rfl) rfl c11 ?_
    refine r_iconst (dGet dX12_next (j := 210) rfl) kI_2 ?_
    refine r_goto (dGet dX12_next (j := 211) rfl) rfl ?_
    refine Run.weak [(0, .ref v0), (1, .int v1), (3, .int s0)] (by simp) (by simp [pNd]) ?_
    exact lX12_next_412 X N d v0 v1 s0 v0 (2 : Int32) h q hf nv0 nv0
def fX12_next_400 (N : Nat) (v0 : Nat) (v1 : Int32) (h : pH) : Option (pH) :=
  fX12_next_401 N v0 v1 (0 : Int32) h
theorem lX12_next_400 (X : pX) (N d : Nat)  (v0 : Nat) (v1 : Int32) (h : pH) (q : pH) (hf : fX12_next_400 N v0 v1 h = some q) (nv0 : ¬ v0 = 4) : Run X (d + 2) 12 false (pCd 8113) 4 none 400 [(0, .ref v0), (1, .int v1)] [] h 0 0 (none, q, 0, 0) := by
  unfold fX12_next_400 at hf
  refine r_iconst (dGet dX12_next (j := 205) rfl) kI_0 ?_
  exact lX12_next_401 X N d v0 v1 (0 : Int32) h q hf nv0
def fX12_next_396 (N : Nat) (v0 : Nat) (v1 : Int32) (h : pH) : Option (pH) :=
  fX12_next_401 N v0 v1 (1 : Int32) h
theorem lX12_next_396 (X : pX) (N d : Nat)  (v0 : Nat) (v1 : Int32) (h : pH) (q : pH) (hf : fX12_next_396 N v0 v1 h = some q) (nv0 : ¬ v0 = 4) : Run X (d + 2) 12 false (pCd 8113) 4 none 396 [(0, .ref v0), (1, .int v1)] [] h 0 0 (none, q, 0, 0) := by
  unfold fX12_next_396 at hf
  refine r_iconst (dGet dX12_next (j := 203) rfl) kI_1 ?_
  refine r_goto (dGet dX12_next (j := 204) rfl) rfl ?_
  exact lX12_next_401 X N d v0 v1 (1 : Int32) h q hf nv0
def fX12_next_379 (N : Nat) (v0 : Nat) (v1 : Int32) (v2 : Int32) (h : pH) : Option (pH) :=
  if v1 = v2 then (
  if v1 = (38 : Int32) then (
  fX12_next_396 N v0 v1 h) else (
  if v1 = (124 : Int32) then (
  fX12_next_396 N v0 v1 h) else (
  fX12_next_400 N v0 v1 h))) else (
  fX12_next_400 N v0 v1 h)
theorem lX12_next_379 (X : pX) (N d : Nat)  (v0 : Nat) (v1 : Int32) (v2 : Int32) (h : pH) (q : pH) (hf : fX12_next_379 N v0 v1 v2 h = some q) (nv0 : ¬ v0 = 4) : Run X (d + 2) 12 false (pCd 8113) 4 none 379 [(0, .ref v0), (1, .int v1), (2, .int v2)] [] h 0 0 (none, q, 0, 0) := by
  unfold fX12_next_379 at hf
  refine r_iload_n (dGet dX12_next (j := 194) rfl) rfl ?_
  refine r_iload_n (dGet dX12_next (j := 195) rfl) rfl ?_
  by_cases c12 : v1 = v2
  · rw [if_pos c12] at hf
    refine r_icmp_ne_f (dGet dX12_next (j := 196) rfl) rfl c12 ?_
    refine r_iload_n (dGet dX12_next (j := 197) rfl) rfl ?_
    refine r_bipush (dGet dX12_next (j := 198) rfl) kB_38 ?_
    by_cases c13 : v1 = (38 : Int32)
    · rw [if_pos c13] at hf
      refine r_icmp_eq_t (dGet dX12_next (j := 199) rfl) rfl c13 ?_
      refine Run.weak [(0, .ref v0), (1, .int v1)] (by simp) (by simp [pNd]) ?_
      exact lX12_next_396 X N d v0 v1 h q hf nv0
    · rw [if_neg c13] at hf
      refine r_icmp_eq_f (dGet dX12_next (j := 199) rfl) rfl c13 ?_
      refine r_iload_n (dGet dX12_next (j := 200) rfl) rfl ?_
      refine r_bipush (dGet dX12_next (j := 201) rfl) kB_124 ?_
      by_cases c14 : v1 = (124 : Int32)
      · rw [if_pos c14] at hf
        refine r_icmp_ne_f (dGet dX12_next (j := 202) rfl) rfl c14 ?_
        refine Run.weak [(0, .ref v0), (1, .int v1)] (by simp) (by simp [pNd]) ?_
        exact lX12_next_396 X N d v0 v1 h q hf nv0
      · rw [if_neg c14] at hf
        refine r_icmp_ne_t (dGet dX12_next (j := 202) rfl) rfl c14 ?_
        refine Run.weak [(0, .ref v0), (1, .int v1)] (by simp) (by simp [pNd]) ?_
        exact lX12_next_400 X N d v0 v1 h q hf nv0
  · rw [if_neg c12] at hf
    refine r_icmp_ne_t (dGet dX12_next (j := 196) rfl) rfl c12 ?_
    refine Run.weak [(0, .ref v0), (1, .int v1)] (by simp) (by simp [pNd]) ?_
    exact lX12_next_400 X N d v0 v1 h q hf nv0
def fX12_next_352 (N : Nat) (v0 : Nat) (h : pH) : Option (pH) :=
  fX12_next_452 N v0 h
theorem lX12_next_352 (X : pX) (N d : Nat)  (v0 : Nat) (h : pH) (q : pH) (hf : fX12_next_352 N v0 h = some q) (nv0 : ¬ v0 = 4) : Run X (d + 2) 12 false (pCd 8113) 4 none 352 [(0, .ref v0)] [] h 0 0 (none, q, 0, 0) := by
  unfold fX12_next_352 at hf
  refine r_goto (dGet dX12_next (j := 181) rfl) rfl ?_
  exact lX12_next_452 X N d v0 h q hf nv0
def fX12_next_304 (N : Nat) : Nat → Nat → Int32 → pH → Option (pH)
  | 0, _, _, _ => none
  | n + 1, v0, v3, h => (getI h v0 12 7).bind fun t15 =>
  if t15 ≤ v3 then (
  fX12_next_352 N v0 h) else (
  (getI h v0 12 5).bind fun t17 =>
  if t17 = (3 : Int32) then (
  (getI h v0 12 8).bind fun t19 =>
  (getR h v0 12 2).bind fun t20 =>
  (getI h v0 12 6).bind fun t21 =>
  (ldI h t20 (t21 + v3)).bind fun t22 =>
  (putI h v0 12 8 ((((10 : Int32) * t19) + t22) - (48 : Int32))).bind fun h23 =>
  fX12_next_304 N n v0 (v3 + (1 : Int32)) h23) else (
  fX12_next_352 N v0 h))
theorem lX12_next_304 (X : pX) (N d : Nat)  : ∀ (n : Nat) (v0 : Nat) (v3 : Int32) (h : pH) (q : pH), fX12_next_304 N n v0 v3 h = some q → ¬ v0 = 4 → Run X (d + 2) 12 false (pCd 8113) 4 none 304 [(0, .ref v0), (3, .int v3)] [] h 0 0 (none, q, 0, 0) := by
  intro n
  induction n with
  | zero => intro v0 v3 h q hf; cases hf
  | succ n ih =>
    intro v0 v3 h q hf nv0
    unfold fX12_next_304 at hf
    refine r_iload_n (dGet dX12_next (j := 155) rfl) rfl ?_
    refine r_aload_n (dGet dX12_next (j := 156) rfl) nv0 rfl ?_
    obtain ⟨t15, et15, hf⟩ := Option.bind_eq_some_iff.mp hf
    refine r_getI (dGet dX12_next (j := 157) rfl) F12_243 et15 ?_
    by_cases c16 : t15 ≤ v3
    · rw [if_pos c16] at hf
      refine r_icmp_ge_t (dGet dX12_next (j := 158) rfl) rfl c16 ?_
      refine Run.weak [(0, .ref v0)] (by simp) (by simp [pNd]) ?_
      exact lX12_next_352 X N d v0 h q hf nv0
    · rw [if_neg c16] at hf
      refine r_icmp_ge_f (dGet dX12_next (j := 158) rfl) rfl c16 ?_
      refine r_aload_n (dGet dX12_next (j := 159) rfl) nv0 rfl ?_
      obtain ⟨t17, et17, hf⟩ := Option.bind_eq_some_iff.mp hf
      refine r_getI (dGet dX12_next (j := 160) rfl) F12_263 et17 ?_
      refine r_iconst (dGet dX12_next (j := 161) rfl) kI_3 ?_
      by_cases c18 : t17 = (3 : Int32)
      · rw [if_pos c18] at hf
        refine r_icmp_ne_f (dGet dX12_next (j := 162) rfl) rfl c18 ?_
        refine r_aload_n (dGet dX12_next (j := 163) rfl) nv0 rfl ?_
        refine r_bipush (dGet dX12_next (j := 164) rfl) kB_10 ?_
        refine r_aload_n (dGet dX12_next (j := 165) rfl) nv0 rfl ?_
        obtain ⟨t19, et19, hf⟩ := Option.bind_eq_some_iff.mp hf
        refine r_getI (dGet dX12_next (j := 166) rfl) F12_256 et19 ?_
        refine r_imul (dGet dX12_next (j := 167) rfl) ?_
        refine r_aload_n (dGet dX12_next (j := 168) rfl) nv0 rfl ?_
        obtain ⟨t20, et20, hf⟩ := Option.bind_eq_some_iff.mp hf
        refine r_getR (dGet dX12_next (j := 169) rfl) F12_13 et20 ?_
        refine r_aload_n (dGet dX12_next (j := 170) rfl) nv0 rfl ?_
        obtain ⟨t21, et21, hf⟩ := Option.bind_eq_some_iff.mp hf
        refine r_getI (dGet dX12_next (j := 171) rfl) F12_246 et21 ?_
        refine r_iload_n (dGet dX12_next (j := 172) rfl) rfl ?_
        refine r_iadd (dGet dX12_next (j := 173) rfl) ?_
        obtain ⟨t22, et22, hf⟩ := Option.bind_eq_some_iff.mp hf
        refine r_iald (dGet dX12_next (j := 174) rfl) et22 ?_
        refine r_iadd (dGet dX12_next (j := 175) rfl) ?_
        refine r_bipush (dGet dX12_next (j := 176) rfl) kB_48 ?_
        refine r_isub (dGet dX12_next (j := 177) rfl) ?_
        obtain ⟨h23, eh23, hf⟩ := Option.bind_eq_some_iff.mp hf
        refine r_putI (dGet dX12_next (j := 178) rfl) F12_256 rfl rfl eh23 ?_
        refine r_iinc (lv' := [(3, .int (v3 + (1 : Int32))), (0, .ref v0)]) (dGet dX12_next (j := 179) rfl) rfl (by decide) kI_1 rfl ?_
        refine r_goto (dGet dX12_next (j := 180) rfl) rfl ?_
        refine Run.weak [(0, .ref v0), (3, .int (v3 + (1 : Int32)))] (by simp) (by simp [pNd]) ?_
        exact ih v0 (v3 + (1 : Int32)) h23 q hf nv0
      · rw [if_neg c18] at hf
        refine r_icmp_ne_t (dGet dX12_next (j := 162) rfl) rfl c18 ?_
        refine Run.weak [(0, .ref v0)] (by simp) (by simp [pNd]) ?_
        exact lX12_next_352 X N d v0 h q hf nv0
def fX12_next_299 (N : Nat) (v0 : Nat) (s0 : Nat) (s1 : Int32) (h : pH) : Option (pH) :=
  (putI h s0 12 5 s1).bind fun h24 =>
  fX12_next_304 N N v0 (0 : Int32) h24
theorem lX12_next_299 (X : pX) (N d : Nat)  (v0 : Nat) (s0 : Nat) (s1 : Int32) (h : pH) (q : pH) (hf : fX12_next_299 N v0 s0 s1 h = some q) (nv0 : ¬ v0 = 4) (ns0 : ¬ s0 = 4) : Run X (d + 2) 12 false (pCd 8113) 4 none 299 [(0, .ref v0)] [.int s1, .ref s0] h 0 0 (none, q, 0, 0) := by
  unfold fX12_next_299 at hf
  obtain ⟨h24, eh24, hf⟩ := Option.bind_eq_some_iff.mp hf
  refine r_putI (dGet dX12_next (j := 152) rfl) F12_263 rfl rfl eh24 ?_
  refine r_iconst (dGet dX12_next (j := 153) rfl) kI_0 ?_
  refine r_istore_n (lv' := [(3, .int (0 : Int32)), (0, .ref v0)]) (dGet dX12_next (j := 154) rfl) (by decide) rfl ?_
  refine Run.weak [(0, .ref v0), (3, .int (0 : Int32))] (by simp) (by simp [pNd]) ?_
  exact lX12_next_304 X N d N v0 (0 : Int32) h24 q hf nv0
def fX12_next_284 (N : Nat) (v0 : Nat) (h : pH) : Option (pH) :=
  (getI h v0 12 7).bind fun t25 =>
  if t25 ≤ (9 : Int32) then (
  fX12_next_299 N v0 v0 (3 : Int32) h) else (
  fX12_next_299 N v0 v0 (1 : Int32) h)
theorem lX12_next_284 (X : pX) (N d : Nat)  (v0 : Nat) (h : pH) (q : pH) (hf : fX12_next_284 N v0 h = some q) (nv0 : ¬ v0 = 4) : Run X (d + 2) 12 false (pCd 8113) 4 none 284 [(0, .ref v0)] [] h 0 0 (none, q, 0, 0) := by
  unfold fX12_next_284 at hf
  refine r_aload_n (dGet dX12_next (j := 144) rfl) nv0 rfl ?_
  refine r_aload_n (dGet dX12_next (j := 145) rfl) nv0 rfl ?_
  obtain ⟨t25, et25, hf⟩ := Option.bind_eq_some_iff.mp hf
  refine r_getI (dGet dX12_next (j := 146) rfl) F12_243 et25 ?_
  refine r_bipush (dGet dX12_next (j := 147) rfl) kB_9 ?_
  by_cases c26 : t25 ≤ (9 : Int32)
  · rw [if_pos c26] at hf
    refine r_icmp_le_t (dGet dX12_next (j := 148) rfl) rfl c26 ?_
    refine r_iconst (dGet dX12_next (j := 151) rfl) kI_3 ?_
    exact lX12_next_299 X N d v0 v0 (3 : Int32) h q hf nv0 nv0
  · rw [if_neg c26] at hf
    refine r_icmp_le_f (dGet dX12_next (j := 148) rfl) rfl c26 ?_
    refine r_iconst (dGet dX12_next (j := 149) rfl) kI_1 ?_
    refine r_goto (dGet dX12_next (j := 150) rfl) rfl ?_
    exact lX12_next_299 X N d v0 v0 (1 : Int32) h q hf nv0 nv0
def fX12_next_235 (N : Nat) : Nat → Nat → pH → Option (pH)
  | 0, _, _ => none
  | n + 1, v0, h => (getI h v0 12 6).bind fun t27 =>
  (getI h v0 12 7).bind fun t28 =>
  (getI h v0 12 3).bind fun t29 =>
  if t29 ≤ (t27 + t28) then (
  fX12_next_284 N v0 h) else (
  (getR h v0 12 2).bind fun t31 =>
  (getI h v0 12 6).bind fun t32 =>
  (getI h v0 12 7).bind fun t33 =>
  (ldI h t31 (t32 + t33)).bind fun t34 =>
  (fX12_isDigit N t34 h).bind fun q35 =>
  if q35.1 = 0 then (
  fX12_next_284 N v0 q35.2) else (
  (getI q35.2 v0 12 7).bind fun t37 =>
  (putI q35.2 v0 12 7 (t37 + (1 : Int32))).bind fun h38 =>
  fX12_next_235 N n v0 h38))
theorem lX12_next_235 (X : pX) (N d : Nat)  : ∀ (n : Nat) (v0 : Nat) (h : pH) (q : pH), fX12_next_235 N n v0 h = some q → ¬ v0 = 4 → Run X (d + 2) 12 false (pCd 8113) 4 none 235 [(0, .ref v0)] [] h 0 0 (none, q, 0, 0) := by
  intro n
  induction n with
  | zero => intro v0 h q hf; cases hf
  | succ n ih =>
    intro v0 h q hf nv0
    unfold fX12_next_235 at hf
    refine r_aload_n (dGet dX12_next (j := 119) rfl) nv0 rfl ?_
    obtain ⟨t27, et27, hf⟩ := Option.bind_eq_some_iff.mp hf
    refine r_getI (dGet dX12_next (j := 120) rfl) F12_246 et27 ?_
    refine r_aload_n (dGet dX12_next (j := 121) rfl) nv0 rfl ?_
    obtain ⟨t28, et28, hf⟩ := Option.bind_eq_some_iff.mp hf
    refine r_getI (dGet dX12_next (j := 122) rfl) F12_243 et28 ?_
    refine r_iadd (dGet dX12_next (j := 123) rfl) ?_
    refine r_aload_n (dGet dX12_next (j := 124) rfl) nv0 rfl ?_
    obtain ⟨t29, et29, hf⟩ := Option.bind_eq_some_iff.mp hf
    refine r_getI (dGet dX12_next (j := 125) rfl) F12_240 et29 ?_
    by_cases c30 : t29 ≤ (t27 + t28)
    · rw [if_pos c30] at hf
      refine r_icmp_ge_t (dGet dX12_next (j := 126) rfl) rfl c30 ?_
      exact lX12_next_284 X N d v0 h q hf nv0
    · rw [if_neg c30] at hf
      refine r_icmp_ge_f (dGet dX12_next (j := 126) rfl) rfl c30 ?_
      refine r_aload_n (dGet dX12_next (j := 127) rfl) nv0 rfl ?_
      obtain ⟨t31, et31, hf⟩ := Option.bind_eq_some_iff.mp hf
      refine r_getR (dGet dX12_next (j := 128) rfl) F12_13 et31 ?_
      refine r_aload_n (dGet dX12_next (j := 129) rfl) nv0 rfl ?_
      obtain ⟨t32, et32, hf⟩ := Option.bind_eq_some_iff.mp hf
      refine r_getI (dGet dX12_next (j := 130) rfl) F12_246 et32 ?_
      refine r_aload_n (dGet dX12_next (j := 131) rfl) nv0 rfl ?_
      obtain ⟨t33, et33, hf⟩ := Option.bind_eq_some_iff.mp hf
      refine r_getI (dGet dX12_next (j := 132) rfl) F12_243 et33 ?_
      refine r_iadd (dGet dX12_next (j := 133) rfl) ?_
      obtain ⟨t34, et34, hf⟩ := Option.bind_eq_some_iff.mp hf
      refine r_iald (dGet dX12_next (j := 134) rfl) et34 ?_
      obtain ⟨q35, eq35, hf⟩ := Option.bind_eq_some_iff.mp hf
      refine r_static (dGet dX12_next (j := 135) rfl) (by decide +kernel) (by decide +kernel) L12_270 M237 rfl rfl (Nat.le_of_ble_eq_true rfl) (cX12_isDigit X N (d + 0) t34 h q35 eq35) ?_
      by_cases c36 : q35.1 = 0
      · rw [if_pos c36] at hf
        refine r_if_eq_t (dGet dX12_next (j := 136) rfl) rfl c36 ?_
        exact lX12_next_284 X N d v0 q35.2 q hf nv0
      · rw [if_neg c36] at hf
        refine r_if_eq_f (dGet dX12_next (j := 136) rfl) rfl c36 ?_
        refine r_aload_n (dGet dX12_next (j := 137) rfl) nv0 rfl ?_
        refine r_dup (dGet dX12_next (j := 138) rfl) rfl ?_
        obtain ⟨t37, et37, hf⟩ := Option.bind_eq_some_iff.mp hf
        refine r_getI (dGet dX12_next (j := 139) rfl) F12_243 et37 ?_
        refine r_iconst (dGet dX12_next (j := 140) rfl) kI_1 ?_
        refine r_iadd (dGet dX12_next (j := 141) rfl) ?_
        obtain ⟨h38, eh38, hf⟩ := Option.bind_eq_some_iff.mp hf
        refine r_putI (dGet dX12_next (j := 142) rfl) F12_243 rfl rfl eh38 ?_
        refine r_goto (dGet dX12_next (j := 143) rfl) rfl ?_
        exact ih v0 h38 q hf nv0
def fX12_next_206 (N : Nat) (v0 : Nat) (s0 : Nat) (s1 : Int32) (h : pH) : Option (pH) :=
  (putI h s0 12 5 s1).bind fun h39 =>
  (getI h39 v0 12 5).bind fun t40 =>
  if t40 = (2 : Int32) then (
  (fX12_nameOf N v0 h39).bind fun q42 =>
  (putI q42.2 v0 12 8 q42.1).bind fun h43 =>
  fX12_next_452 N v0 h43) else (
  fX12_next_452 N v0 h39)
theorem lX12_next_206 (X : pX) (N d : Nat)  (v0 : Nat) (s0 : Nat) (s1 : Int32) (h : pH) (q : pH) (hf : fX12_next_206 N v0 s0 s1 h = some q) (nv0 : ¬ v0 = 4) (ns0 : ¬ s0 = 4) : Run X (d + 2) 12 false (pCd 8113) 4 none 206 [(0, .ref v0)] [.int s1, .ref s0] h 0 0 (none, q, 0, 0) := by
  unfold fX12_next_206 at hf
  obtain ⟨h39, eh39, hf⟩ := Option.bind_eq_some_iff.mp hf
  refine r_putI (dGet dX12_next (j := 106) rfl) F12_263 rfl rfl eh39 ?_
  refine r_aload_n (dGet dX12_next (j := 107) rfl) nv0 rfl ?_
  obtain ⟨t40, et40, hf⟩ := Option.bind_eq_some_iff.mp hf
  refine r_getI (dGet dX12_next (j := 108) rfl) F12_263 et40 ?_
  refine r_iconst (dGet dX12_next (j := 109) rfl) kI_2 ?_
  by_cases c41 : t40 = (2 : Int32)
  · rw [if_pos c41] at hf
    refine r_icmp_ne_f (dGet dX12_next (j := 110) rfl) rfl c41 ?_
    refine r_aload_n (dGet dX12_next (j := 111) rfl) nv0 rfl ?_
    refine r_aload_n (dGet dX12_next (j := 112) rfl) nv0 rfl ?_
    obtain ⟨q42, eq42, hf⟩ := Option.bind_eq_some_iff.mp hf
    refine r_virtual (dGet dX12_next (j := 113) rfl) L12_277 M240 rfl rfl (Nat.le_of_ble_eq_true rfl) (oX12_nameOf eq42) (cX12_nameOf X N (d + 1) v0 h39 q42 eq42) ?_
    obtain ⟨h43, eh43, hf⟩ := Option.bind_eq_some_iff.mp hf
    refine r_putI (dGet dX12_next (j := 114) rfl) F12_256 rfl rfl eh43 ?_
    refine r_goto (dGet dX12_next (j := 115) rfl) rfl ?_
    exact lX12_next_452 X N d v0 h43 q hf nv0
  · rw [if_neg c41] at hf
    refine r_icmp_ne_t (dGet dX12_next (j := 110) rfl) rfl c41 ?_
    exact lX12_next_452 X N d v0 h39 q hf nv0
def fX12_next_185 (N : Nat) (v0 : Nat) (h : pH) : Option (pH) :=
  (fX12_keyOf N v0 h).bind fun q44 =>
  (putI q44.2 v0 12 8 q44.1).bind fun h45 =>
  (getI h45 v0 12 8).bind fun t46 =>
  if t46 ≤ 0 then (
  fX12_next_206 N v0 v0 (2 : Int32) h45) else (
  fX12_next_206 N v0 v0 (5 : Int32) h45)
theorem lX12_next_185 (X : pX) (N d : Nat)  (v0 : Nat) (h : pH) (q : pH) (hf : fX12_next_185 N v0 h = some q) (nv0 : ¬ v0 = 4) : Run X (d + 2) 12 false (pCd 8113) 4 none 185 [(0, .ref v0)] [] h 0 0 (none, q, 0, 0) := by
  unfold fX12_next_185 at hf
  refine r_aload_n (dGet dX12_next (j := 95) rfl) nv0 rfl ?_
  refine r_aload_n (dGet dX12_next (j := 96) rfl) nv0 rfl ?_
  obtain ⟨q44, eq44, hf⟩ := Option.bind_eq_some_iff.mp hf
  refine r_virtual (dGet dX12_next (j := 97) rfl) L12_273 M238 rfl rfl (Nat.le_of_ble_eq_true rfl) (oX12_keyOf eq44) (cX12_keyOf X N (d + 0) v0 h q44 eq44) ?_
  obtain ⟨h45, eh45, hf⟩ := Option.bind_eq_some_iff.mp hf
  refine r_putI (dGet dX12_next (j := 98) rfl) F12_256 rfl rfl eh45 ?_
  refine r_aload_n (dGet dX12_next (j := 99) rfl) nv0 rfl ?_
  refine r_aload_n (dGet dX12_next (j := 100) rfl) nv0 rfl ?_
  obtain ⟨t46, et46, hf⟩ := Option.bind_eq_some_iff.mp hf
  refine r_getI (dGet dX12_next (j := 101) rfl) F12_256 et46 ?_
  by_cases c47 : t46 ≤ 0
  · rw [if_pos c47] at hf
    refine r_if_le_t (dGet dX12_next (j := 102) rfl) rfl c47 ?_
    refine r_iconst (dGet dX12_next (j := 105) rfl) kI_2 ?_
    exact lX12_next_206 X N d v0 v0 (2 : Int32) h45 q hf nv0 nv0
  · rw [if_neg c47] at hf
    refine r_if_le_f (dGet dX12_next (j := 102) rfl) rfl c47 ?_
    refine r_iconst (dGet dX12_next (j := 103) rfl) kI_5 ?_
    refine r_goto (dGet dX12_next (j := 104) rfl) rfl ?_
    exact lX12_next_206 X N d v0 v0 (5 : Int32) h45 q hf nv0 nv0
def fX12_next_172 (N : Nat) (k116 : Nat → pH → Option (pH)) (v0 : Nat) (h : pH) : Option (pH) :=
  (getI h v0 12 7).bind fun t48 =>
  (putI h v0 12 7 (t48 + (1 : Int32))).bind fun h49 =>
  k116 v0 h49
theorem lX12_next_172 (X : pX) (N d : Nat)  (k116 : Nat → pH → Option (pH)) (K116 : ∀ (w0 : Nat) (h : pH) (q : pH), k116 w0 h = some q → ¬ w0 = 4 → Run X (d + 2) 12 false (pCd 8113) 4 none 116 [(0, .ref w0)] [] h 0 0 (none, q, 0, 0)) (v0 : Nat) (h : pH) (q : pH) (hf : fX12_next_172 N k116 v0 h = some q) (nv0 : ¬ v0 = 4) : Run X (d + 2) 12 false (pCd 8113) 4 none 172 [(0, .ref v0)] [] h 0 0 (none, q, 0, 0) := by
  unfold fX12_next_172 at hf
  refine r_aload_n (dGet dX12_next (j := 88) rfl) nv0 rfl ?_
  refine r_dup (dGet dX12_next (j := 89) rfl) rfl ?_
  obtain ⟨t48, et48, hf⟩ := Option.bind_eq_some_iff.mp hf
  refine r_getI (dGet dX12_next (j := 90) rfl) F12_243 et48 ?_
  refine r_iconst (dGet dX12_next (j := 91) rfl) kI_1 ?_
  refine r_iadd (dGet dX12_next (j := 92) rfl) ?_
  obtain ⟨h49, eh49, hf⟩ := Option.bind_eq_some_iff.mp hf
  refine r_putI (dGet dX12_next (j := 93) rfl) F12_243 rfl rfl eh49 ?_
  refine r_goto (dGet dX12_next (j := 94) rfl) rfl ?_
  exact K116 v0 h49 q hf nv0
def fX12_next_116 (N : Nat) : Nat → Nat → pH → Option (pH)
  | 0, _, _ => none
  | n + 1, v0, h => (getI h v0 12 6).bind fun t50 =>
  (getI h v0 12 7).bind fun t51 =>
  (getI h v0 12 3).bind fun t52 =>
  if t52 ≤ (t50 + t51) then (
  fX12_next_185 N v0 h) else (
  (getR h v0 12 2).bind fun t54 =>
  (getI h v0 12 6).bind fun t55 =>
  (getI h v0 12 7).bind fun t56 =>
  (ldI h t54 (t55 + t56)).bind fun t57 =>
  (fX12_isLetter N t57 h).bind fun q58 =>
  if q58.1 = 0 then (
  (getR q58.2 v0 12 2).bind fun t60 =>
  (getI q58.2 v0 12 6).bind fun t61 =>
  (getI q58.2 v0 12 7).bind fun t62 =>
  (ldI q58.2 t60 (t61 + t62)).bind fun t63 =>
  (fX12_isDigit N t63 q58.2).bind fun q64 =>
  if q64.1 = 0 then (
  fX12_next_185 N v0 q64.2) else (
  fX12_next_172 N (fX12_next_116 N n) v0 q64.2)) else (
  fX12_next_172 N (fX12_next_116 N n) v0 q58.2))
theorem lX12_next_116 (X : pX) (N d : Nat)  : ∀ (n : Nat) (v0 : Nat) (h : pH) (q : pH), fX12_next_116 N n v0 h = some q → ¬ v0 = 4 → Run X (d + 2) 12 false (pCd 8113) 4 none 116 [(0, .ref v0)] [] h 0 0 (none, q, 0, 0) := by
  intro n
  induction n with
  | zero => intro v0 h q hf; cases hf
  | succ n ih =>
    intro v0 h q hf nv0
    unfold fX12_next_116 at hf
    refine r_aload_n (dGet dX12_next (j := 60) rfl) nv0 rfl ?_
    obtain ⟨t50, et50, hf⟩ := Option.bind_eq_some_iff.mp hf
    refine r_getI (dGet dX12_next (j := 61) rfl) F12_246 et50 ?_
    refine r_aload_n (dGet dX12_next (j := 62) rfl) nv0 rfl ?_
    obtain ⟨t51, et51, hf⟩ := Option.bind_eq_some_iff.mp hf
    refine r_getI (dGet dX12_next (j := 63) rfl) F12_243 et51 ?_
    refine r_iadd (dGet dX12_next (j := 64) rfl) ?_
    refine r_aload_n (dGet dX12_next (j := 65) rfl) nv0 rfl ?_
    obtain ⟨t52, et52, hf⟩ := Option.bind_eq_some_iff.mp hf
    refine r_getI (dGet dX12_next (j := 66) rfl) F12_240 et52 ?_
    by_cases c53 : t52 ≤ (t50 + t51)
    · rw [if_pos c53] at hf
      refine r_icmp_ge_t (dGet dX12_next (j := 67) rfl) rfl c53 ?_
      exact lX12_next_185 X N d v0 h q hf nv0
    · rw [if_neg c53] at hf
      refine r_icmp_ge_f (dGet dX12_next (j := 67) rfl) rfl c53 ?_
      refine r_aload_n (dGet dX12_next (j := 68) rfl) nv0 rfl ?_
      obtain ⟨t54, et54, hf⟩ := Option.bind_eq_some_iff.mp hf
      refine r_getR (dGet dX12_next (j := 69) rfl) F12_13 et54 ?_
      refine r_aload_n (dGet dX12_next (j := 70) rfl) nv0 rfl ?_
      obtain ⟨t55, et55, hf⟩ := Option.bind_eq_some_iff.mp hf
      refine r_getI (dGet dX12_next (j := 71) rfl) F12_246 et55 ?_
      refine r_aload_n (dGet dX12_next (j := 72) rfl) nv0 rfl ?_
      obtain ⟨t56, et56, hf⟩ := Option.bind_eq_some_iff.mp hf
      refine r_getI (dGet dX12_next (j := 73) rfl) F12_243 et56 ?_
      refine r_iadd (dGet dX12_next (j := 74) rfl) ?_
      obtain ⟨t57, et57, hf⟩ := Option.bind_eq_some_iff.mp hf
      refine r_iald (dGet dX12_next (j := 75) rfl) et57 ?_
      obtain ⟨q58, eq58, hf⟩ := Option.bind_eq_some_iff.mp hf
      refine r_static (dGet dX12_next (j := 76) rfl) (by decide +kernel) (by decide +kernel) L12_266 M235 rfl rfl (Nat.le_of_ble_eq_true rfl) (cX12_isLetter X N (d + 0) t57 h q58 eq58) ?_
      by_cases c59 : q58.1 = 0
      · rw [if_pos c59] at hf
        refine r_if_ne_f (dGet dX12_next (j := 77) rfl) rfl c59 ?_
        refine r_aload_n (dGet dX12_next (j := 78) rfl) nv0 rfl ?_
        obtain ⟨t60, et60, hf⟩ := Option.bind_eq_some_iff.mp hf
        refine r_getR (dGet dX12_next (j := 79) rfl) F12_13 et60 ?_
        refine r_aload_n (dGet dX12_next (j := 80) rfl) nv0 rfl ?_
        obtain ⟨t61, et61, hf⟩ := Option.bind_eq_some_iff.mp hf
        refine r_getI (dGet dX12_next (j := 81) rfl) F12_246 et61 ?_
        refine r_aload_n (dGet dX12_next (j := 82) rfl) nv0 rfl ?_
        obtain ⟨t62, et62, hf⟩ := Option.bind_eq_some_iff.mp hf
        refine r_getI (dGet dX12_next (j := 83) rfl) F12_243 et62 ?_
        refine r_iadd (dGet dX12_next (j := 84) rfl) ?_
        obtain ⟨t63, et63, hf⟩ := Option.bind_eq_some_iff.mp hf
        refine r_iald (dGet dX12_next (j := 85) rfl) et63 ?_
        obtain ⟨q64, eq64, hf⟩ := Option.bind_eq_some_iff.mp hf
        refine r_static (dGet dX12_next (j := 86) rfl) (by decide +kernel) (by decide +kernel) L12_270 M237 rfl rfl (Nat.le_of_ble_eq_true rfl) (cX12_isDigit X N (d + 0) t63 q58.2 q64 eq64) ?_
        by_cases c65 : q64.1 = 0
        · rw [if_pos c65] at hf
          refine r_if_eq_t (dGet dX12_next (j := 87) rfl) rfl c65 ?_
          exact lX12_next_185 X N d v0 q64.2 q hf nv0
        · rw [if_neg c65] at hf
          refine r_if_eq_f (dGet dX12_next (j := 87) rfl) rfl c65 ?_
          exact lX12_next_172 X N d (fX12_next_116 N n) ih v0 q64.2 q hf nv0
      · rw [if_neg c59] at hf
        refine r_if_ne_t (dGet dX12_next (j := 77) rfl) rfl c59 ?_
        exact lX12_next_172 X N d (fX12_next_116 N n) ih v0 q58.2 q hf nv0
def fX12_next_52 (N : Nat) (v0 : Nat) (h : pH) : Option (pH) :=
  (getI h v0 12 4).bind fun t66 =>
  (putI h v0 12 6 t66).bind fun h67 =>
  (putI h67 v0 12 7 (0 : Int32)).bind fun h68 =>
  (putI h68 v0 12 8 (0 : Int32)).bind fun h69 =>
  (getI h69 v0 12 4).bind fun t70 =>
  (fX12_byteAt N v0 t70 h69).bind fun q71 =>
  (getI q71.2 v0 12 4).bind fun t72 =>
  (fX12_byteAt N v0 (t72 + (1 : Int32)) q71.2).bind fun q73 =>
  (getI q73.2 v0 12 4).bind fun t74 =>
  (getI q73.2 v0 12 3).bind fun t75 =>
  if t74 = t75 then (
  (putI q73.2 v0 12 5 (0 : Int32)).bind fun h85 =>
  fX12_next_452 N v0 h85) else (
  (fX12_isLetter N q71.1 q73.2).bind fun q77 =>
  if q77.1 = 0 then (
  (fX12_isDigit N q71.1 q77.2).bind fun q79 =>
  if q79.1 = 0 then (
  if q73.1 = (61 : Int32) then (
  if q71.1 = (61 : Int32) then (
  fX12_next_396 N v0 q71.1 q79.2) else (
  if q71.1 = (33 : Int32) then (
  fX12_next_396 N v0 q71.1 q79.2) else (
  if q71.1 = (60 : Int32) then (
  fX12_next_396 N v0 q71.1 q79.2) else (
  fX12_next_379 N v0 q71.1 q73.1 q79.2)))) else (
  fX12_next_379 N v0 q71.1 q73.1 q79.2)) else (
  fX12_next_235 N N v0 q79.2)) else (
  fX12_next_116 N N v0 q77.2))
theorem lX12_next_52 (X : pX) (N d : Nat)  (v0 : Nat) (h : pH) (q : pH) (hf : fX12_next_52 N v0 h = some q) (nv0 : ¬ v0 = 4) : Run X (d + 2) 12 false (pCd 8113) 4 none 52 [(0, .ref v0)] [] h 0 0 (none, q, 0, 0) := by
  unfold fX12_next_52 at hf
  refine r_aload_n (dGet dX12_next (j := 26) rfl) nv0 rfl ?_
  refine r_aload_n (dGet dX12_next (j := 27) rfl) nv0 rfl ?_
  obtain ⟨t66, et66, hf⟩ := Option.bind_eq_some_iff.mp hf
  refine r_getI (dGet dX12_next (j := 28) rfl) F12_253 et66 ?_
  obtain ⟨h67, eh67, hf⟩ := Option.bind_eq_some_iff.mp hf
  refine r_putI (dGet dX12_next (j := 29) rfl) F12_246 rfl rfl eh67 ?_
  refine r_aload_n (dGet dX12_next (j := 30) rfl) nv0 rfl ?_
  refine r_iconst (dGet dX12_next (j := 31) rfl) kI_0 ?_
  obtain ⟨h68, eh68, hf⟩ := Option.bind_eq_some_iff.mp hf
  refine r_putI (dGet dX12_next (j := 32) rfl) F12_243 rfl rfl eh68 ?_
  refine r_aload_n (dGet dX12_next (j := 33) rfl) nv0 rfl ?_
  refine r_iconst (dGet dX12_next (j := 34) rfl) kI_0 ?_
  obtain ⟨h69, eh69, hf⟩ := Option.bind_eq_some_iff.mp hf
  refine r_putI (dGet dX12_next (j := 35) rfl) F12_256 rfl rfl eh69 ?_
  refine r_aload_n (dGet dX12_next (j := 36) rfl) nv0 rfl ?_
  refine r_aload_n (dGet dX12_next (j := 37) rfl) nv0 rfl ?_
  obtain ⟨t70, et70, hf⟩ := Option.bind_eq_some_iff.mp hf
  refine r_getI (dGet dX12_next (j := 38) rfl) F12_253 et70 ?_
  obtain ⟨q71, eq71, hf⟩ := Option.bind_eq_some_iff.mp hf
  refine r_virtual (dGet dX12_next (j := 39) rfl) L12_259 M234 rfl rfl (Nat.le_of_ble_eq_true rfl) (oX12_byteAt eq71) (cX12_byteAt X N (d + 1) v0 t70 h69 q71 eq71) ?_
  refine r_istore_n (lv' := [(1, .int q71.1), (0, .ref v0)]) (dGet dX12_next (j := 40) rfl) (by decide) rfl ?_
  refine r_aload_n (dGet dX12_next (j := 41) rfl) nv0 rfl ?_
  refine r_aload_n (dGet dX12_next (j := 42) rfl) nv0 rfl ?_
  obtain ⟨t72, et72, hf⟩ := Option.bind_eq_some_iff.mp hf
  refine r_getI (dGet dX12_next (j := 43) rfl) F12_253 et72 ?_
  refine r_iconst (dGet dX12_next (j := 44) rfl) kI_1 ?_
  refine r_iadd (dGet dX12_next (j := 45) rfl) ?_
  obtain ⟨q73, eq73, hf⟩ := Option.bind_eq_some_iff.mp hf
  refine r_virtual (dGet dX12_next (j := 46) rfl) L12_259 M234 rfl rfl (Nat.le_of_ble_eq_true rfl) (oX12_byteAt eq73) (cX12_byteAt X N (d + 1) v0 (t72 + (1 : Int32)) q71.2 q73 eq73) ?_
  refine r_istore_n (lv' := [(2, .int q73.1), (1, .int q71.1), (0, .ref v0)]) (dGet dX12_next (j := 47) rfl) (by decide) rfl ?_
  refine r_aload_n (dGet dX12_next (j := 48) rfl) nv0 rfl ?_
  obtain ⟨t74, et74, hf⟩ := Option.bind_eq_some_iff.mp hf
  refine r_getI (dGet dX12_next (j := 49) rfl) F12_253 et74 ?_
  refine r_aload_n (dGet dX12_next (j := 50) rfl) nv0 rfl ?_
  obtain ⟨t75, et75, hf⟩ := Option.bind_eq_some_iff.mp hf
  refine r_getI (dGet dX12_next (j := 51) rfl) F12_240 et75 ?_
  by_cases c76 : t74 = t75
  · rw [if_pos c76] at hf
    refine r_icmp_ne_f (dGet dX12_next (j := 52) rfl) rfl c76 ?_
    refine r_aload_n (dGet dX12_next (j := 53) rfl) nv0 rfl ?_
    refine r_iconst (dGet dX12_next (j := 54) rfl) kI_0 ?_
    obtain ⟨h85, eh85, hf⟩ := Option.bind_eq_some_iff.mp hf
    refine r_putI (dGet dX12_next (j := 55) rfl) F12_263 rfl rfl eh85 ?_
    refine r_goto (dGet dX12_next (j := 56) rfl) rfl ?_
    refine Run.weak [(0, .ref v0)] (by simp) (by simp [pNd]) ?_
    exact lX12_next_452 X N d v0 h85 q hf nv0
  · rw [if_neg c76] at hf
    refine r_icmp_ne_t (dGet dX12_next (j := 52) rfl) rfl c76 ?_
    refine r_iload_n (dGet dX12_next (j := 57) rfl) rfl ?_
    obtain ⟨q77, eq77, hf⟩ := Option.bind_eq_some_iff.mp hf
    refine r_static (dGet dX12_next (j := 58) rfl) (by decide +kernel) (by decide +kernel) L12_266 M235 rfl rfl (Nat.le_of_ble_eq_true rfl) (cX12_isLetter X N (d + 0) q71.1 q73.2 q77 eq77) ?_
    by_cases c78 : q77.1 = 0
    · rw [if_pos c78] at hf
      refine r_if_eq_t (dGet dX12_next (j := 59) rfl) rfl c78 ?_
      refine r_iload_n (dGet dX12_next (j := 116) rfl) rfl ?_
      obtain ⟨q79, eq79, hf⟩ := Option.bind_eq_some_iff.mp hf
      refine r_static (dGet dX12_next (j := 117) rfl) (by decide +kernel) (by decide +kernel) L12_270 M237 rfl rfl (Nat.le_of_ble_eq_true rfl) (cX12_isDigit X N (d + 0) q71.1 q77.2 q79 eq79) ?_
      by_cases c80 : q79.1 = 0
      · rw [if_pos c80] at hf
        refine r_if_eq_t (dGet dX12_next (j := 118) rfl) rfl c80 ?_
        refine r_iload_n (dGet dX12_next (j := 182) rfl) rfl ?_
        refine r_bipush (dGet dX12_next (j := 183) rfl) kB_61 ?_
        by_cases c81 : q73.1 = (61 : Int32)
        · rw [if_pos c81] at hf
          refine r_icmp_ne_f (dGet dX12_next (j := 184) rfl) rfl c81 ?_
          refine r_iload_n (dGet dX12_next (j := 185) rfl) rfl ?_
          refine r_bipush (dGet dX12_next (j := 186) rfl) kB_61 ?_
          by_cases c82 : q71.1 = (61 : Int32)
          · rw [if_pos c82] at hf
            refine r_icmp_eq_t (dGet dX12_next (j := 187) rfl) rfl c82 ?_
            refine Run.weak [(0, .ref v0), (1, .int q71.1)] (by simp) (by simp [pNd]) ?_
            exact lX12_next_396 X N d v0 q71.1 q79.2 q hf nv0
          · rw [if_neg c82] at hf
            refine r_icmp_eq_f (dGet dX12_next (j := 187) rfl) rfl c82 ?_
            refine r_iload_n (dGet dX12_next (j := 188) rfl) rfl ?_
            refine r_bipush (dGet dX12_next (j := 189) rfl) kB_33 ?_
            by_cases c83 : q71.1 = (33 : Int32)
            · rw [if_pos c83] at hf
              refine r_icmp_eq_t (dGet dX12_next (j := 190) rfl) rfl c83 ?_
              refine Run.weak [(0, .ref v0), (1, .int q71.1)] (by simp) (by simp [pNd]) ?_
              exact lX12_next_396 X N d v0 q71.1 q79.2 q hf nv0
            · rw [if_neg c83] at hf
              refine r_icmp_eq_f (dGet dX12_next (j := 190) rfl) rfl c83 ?_
              refine r_iload_n (dGet dX12_next (j := 191) rfl) rfl ?_
              refine r_bipush (dGet dX12_next (j := 192) rfl) kB_60 ?_
              by_cases c84 : q71.1 = (60 : Int32)
              · rw [if_pos c84] at hf
                refine r_icmp_eq_t (dGet dX12_next (j := 193) rfl) rfl c84 ?_
                refine Run.weak [(0, .ref v0), (1, .int q71.1)] (by simp) (by simp [pNd]) ?_
                exact lX12_next_396 X N d v0 q71.1 q79.2 q hf nv0
              · rw [if_neg c84] at hf
                refine r_icmp_eq_f (dGet dX12_next (j := 193) rfl) rfl c84 ?_
                refine Run.weak [(0, .ref v0), (1, .int q71.1), (2, .int q73.1)] (by simp) (by simp [pNd]) ?_
                exact lX12_next_379 X N d v0 q71.1 q73.1 q79.2 q hf nv0
        · rw [if_neg c81] at hf
          refine r_icmp_ne_t (dGet dX12_next (j := 184) rfl) rfl c81 ?_
          refine Run.weak [(0, .ref v0), (1, .int q71.1), (2, .int q73.1)] (by simp) (by simp [pNd]) ?_
          exact lX12_next_379 X N d v0 q71.1 q73.1 q79.2 q hf nv0
      · rw [if_neg c80] at hf
        refine r_if_eq_f (dGet dX12_next (j := 118) rfl) rfl c80 ?_
        refine Run.weak [(0, .ref v0)] (by simp) (by simp [pNd]) ?_
        exact lX12_next_235 X N d N v0 q79.2 q hf nv0
    · rw [if_neg c78] at hf
      refine r_if_eq_f (dGet dX12_next (j := 59) rfl) rfl c78 ?_
      refine Run.weak [(0, .ref v0)] (by simp) (by simp [pNd]) ?_
      exact lX12_next_116 X N d N v0 q77.2 q hf nv0
def fX12_next_39 (N : Nat) (k0 : Nat → pH → Option (pH)) (v0 : Nat) (h : pH) : Option (pH) :=
  (getI h v0 12 4).bind fun t86 =>
  (putI h v0 12 4 (t86 + (1 : Int32))).bind fun h87 =>
  k0 v0 h87
theorem lX12_next_39 (X : pX) (N d : Nat)  (k0 : Nat → pH → Option (pH)) (K0 : ∀ (w0 : Nat) (h : pH) (q : pH), k0 w0 h = some q → ¬ w0 = 4 → Run X (d + 2) 12 false (pCd 8113) 4 none 0 [(0, .ref w0)] [] h 0 0 (none, q, 0, 0)) (v0 : Nat) (h : pH) (q : pH) (hf : fX12_next_39 N k0 v0 h = some q) (nv0 : ¬ v0 = 4) : Run X (d + 2) 12 false (pCd 8113) 4 none 39 [(0, .ref v0)] [] h 0 0 (none, q, 0, 0) := by
  unfold fX12_next_39 at hf
  refine r_aload_n (dGet dX12_next (j := 19) rfl) nv0 rfl ?_
  refine r_dup (dGet dX12_next (j := 20) rfl) rfl ?_
  obtain ⟨t86, et86, hf⟩ := Option.bind_eq_some_iff.mp hf
  refine r_getI (dGet dX12_next (j := 21) rfl) F12_253 et86 ?_
  refine r_iconst (dGet dX12_next (j := 22) rfl) kI_1 ?_
  refine r_iadd (dGet dX12_next (j := 23) rfl) ?_
  obtain ⟨h87, eh87, hf⟩ := Option.bind_eq_some_iff.mp hf
  refine r_putI (dGet dX12_next (j := 24) rfl) F12_253 rfl rfl eh87 ?_
  refine r_goto (dGet dX12_next (j := 25) rfl) rfl ?_
  exact K0 v0 h87 q hf nv0
def fX12_next_0 (N : Nat) : Nat → Nat → pH → Option (pH)
  | 0, _, _ => none
  | n + 1, v0, h => (getI h v0 12 4).bind fun t88 =>
  (getI h v0 12 3).bind fun t89 =>
  if t89 ≤ t88 then (
  fX12_next_52 N v0 h) else (
  (getR h v0 12 2).bind fun t91 =>
  (getI h v0 12 4).bind fun t92 =>
  (ldI h t91 t92).bind fun t93 =>
  if t93 = (32 : Int32) then (
  fX12_next_39 N (fX12_next_0 N n) v0 h) else (
  (getR h v0 12 2).bind fun t95 =>
  (getI h v0 12 4).bind fun t96 =>
  (ldI h t95 t96).bind fun t97 =>
  if t97 = (10 : Int32) then (
  fX12_next_39 N (fX12_next_0 N n) v0 h) else (
  fX12_next_52 N v0 h)))
theorem lX12_next_0 (X : pX) (N d : Nat)  : ∀ (n : Nat) (v0 : Nat) (h : pH) (q : pH), fX12_next_0 N n v0 h = some q → ¬ v0 = 4 → Run X (d + 2) 12 false (pCd 8113) 4 none 0 [(0, .ref v0)] [] h 0 0 (none, q, 0, 0) := by
  intro n
  induction n with
  | zero => intro v0 h q hf; cases hf
  | succ n ih =>
    intro v0 h q hf nv0
    unfold fX12_next_0 at hf
    refine r_aload_n (dGet dX12_next (j := 0) rfl) nv0 rfl ?_
    obtain ⟨t88, et88, hf⟩ := Option.bind_eq_some_iff.mp hf
    refine r_getI (dGet dX12_next (j := 1) rfl) F12_253 et88 ?_
    refine r_aload_n (dGet dX12_next (j := 2) rfl) nv0 rfl ?_
    obtain ⟨t89, et89, hf⟩ := Option.bind_eq_some_iff.mp hf
    refine r_getI (dGet dX12_next (j := 3) rfl) F12_240 et89 ?_
    by_cases c90 : t89 ≤ t88
    · rw [if_pos c90] at hf
      refine r_icmp_ge_t (dGet dX12_next (j := 4) rfl) rfl c90 ?_
      exact lX12_next_52 X N d v0 h q hf nv0
    · rw [if_neg c90] at hf
      refine r_icmp_ge_f (dGet dX12_next (j := 4) rfl) rfl c90 ?_
      refine r_aload_n (dGet dX12_next (j := 5) rfl) nv0 rfl ?_
      obtain ⟨t91, et91, hf⟩ := Option.bind_eq_some_iff.mp hf
      refine r_getR (dGet dX12_next (j := 6) rfl) F12_13 et91 ?_
      refine r_aload_n (dGet dX12_next (j := 7) rfl) nv0 rfl ?_
      obtain ⟨t92, et92, hf⟩ := Option.bind_eq_some_iff.mp hf
      refine r_getI (dGet dX12_next (j := 8) rfl) F12_253 et92 ?_
      obtain ⟨t93, et93, hf⟩ := Option.bind_eq_some_iff.mp hf
      refine r_iald (dGet dX12_next (j := 9) rfl) et93 ?_
      refine r_bipush (dGet dX12_next (j := 10) rfl) kB_32 ?_
      by_cases c94 : t93 = (32 : Int32)
      · rw [if_pos c94] at hf
        refine r_icmp_eq_t (dGet dX12_next (j := 11) rfl) rfl c94 ?_
        exact lX12_next_39 X N d (fX12_next_0 N n) ih v0 h q hf nv0
      · rw [if_neg c94] at hf
        refine r_icmp_eq_f (dGet dX12_next (j := 11) rfl) rfl c94 ?_
        refine r_aload_n (dGet dX12_next (j := 12) rfl) nv0 rfl ?_
        obtain ⟨t95, et95, hf⟩ := Option.bind_eq_some_iff.mp hf
        refine r_getR (dGet dX12_next (j := 13) rfl) F12_13 et95 ?_
        refine r_aload_n (dGet dX12_next (j := 14) rfl) nv0 rfl ?_
        obtain ⟨t96, et96, hf⟩ := Option.bind_eq_some_iff.mp hf
        refine r_getI (dGet dX12_next (j := 15) rfl) F12_253 et96 ?_
        obtain ⟨t97, et97, hf⟩ := Option.bind_eq_some_iff.mp hf
        refine r_iald (dGet dX12_next (j := 16) rfl) et97 ?_
        refine r_bipush (dGet dX12_next (j := 17) rfl) kB_10 ?_
        by_cases c98 : t97 = (10 : Int32)
        · rw [if_pos c98] at hf
          refine r_icmp_ne_f (dGet dX12_next (j := 18) rfl) rfl c98 ?_
          exact lX12_next_39 X N d (fX12_next_0 N n) ih v0 h q hf nv0
        · rw [if_neg c98] at hf
          refine r_icmp_ne_t (dGet dX12_next (j := 18) rfl) rfl c98 ?_
          exact lX12_next_52 X N d v0 h q hf nv0
def fX12_next (N : Nat) (v0 : Nat) (h : pH) : Option (pH) := if isO h v0 12 = true then (
  fX12_next_0 N N v0 h) else none
theorem oX12_next {N : Nat} {v0 : Nat} {h : pH} {q : pH} (hf : fX12_next N v0 h = some q) : isO h v0 12 = true := by
  unfold fX12_next at hf
  by_cases hc : isO h v0 12 = true
  · exact hc
  · rw [if_neg hc] at hf; cases hf
theorem cX12_next (X : pX) (N d : Nat) (v0 : Nat) (h : pH) (q : pH) (hf : fX12_next N v0 h = some q) : Calls X (d + 2) 233 [.ref v0] h (none, q, 0, 0) := by
  refine Calls.of M233 (Nat.le_of_ble_eq_true rfl) ?_
  show Run X (d + 2) 12 false (pCd 8113) 4 none 0 [(0, .ref v0)] [] h 0 0 (none, q, 0, 0)
  unfold fX12_next at hf
  by_cases hc : isO h v0 12 = true
  · rw [if_pos hc] at hf
    have nv0 : ¬ v0 = 4 := isO_ne hc
    exact lX12_next_0 X N d N v0 h q hf nv0
  · rw [if_neg hc] at hf; cases hf
def eX12_passes : List (Nat × Instr × Nat) := [(0, .aload_n 0, 1), (1, .getfield 283, 3), (4, .ifCond .ge 7, 3), (7, .iload_n 1, 1), (8, .ifCond .ne 14, 3), (11, .aload_n 0, 1), (12, .aload_n 0, 1), (13, .getfield 246, 3), (16, .invokevirtual 286, 3), (19, .istore_n 2, 1), (20, .iconst 0, 1), (21, .ireturn, 1), (22, .aload_n 0, 1), (23, .invokevirtual 289, 3), (26, .iconst 1, 1), (27, .ireturn, 1)]
theorem dX12_passes : dChk (pCd 8155) eX12_passes = true := by decide +kernel
def fX12_passes_11 (N : Nat) (v0 : Nat) (h : pH) : Option (Int32 × pH) :=
  (getI h v0 12 6).bind fun t1 =>
  (fX12_fails N v0 t1 h).bind fun q2 =>
  some ((0 : Int32), q2.2)
theorem lX12_passes_11 (X : pX) (N d : Nat)  (v0 : Nat) (h : pH) (q : Int32 × pH) (hf : fX12_passes_11 N v0 h = some q) (nv0 : ¬ v0 = 4) : Run X (d + 3) 12 false (pCd 8155) 3 (some .boolean) 11 [(0, .ref v0)] [] h 0 0 (some (.int q.1), q.2, 0, 0) := by
  unfold fX12_passes_11 at hf
  refine r_aload_n (dGet dX12_passes (j := 5) rfl) nv0 rfl ?_
  refine r_aload_n (dGet dX12_passes (j := 6) rfl) nv0 rfl ?_
  obtain ⟨t1, et1, hf⟩ := Option.bind_eq_some_iff.mp hf
  refine r_getI (dGet dX12_passes (j := 7) rfl) F12_246 et1 ?_
  obtain ⟨q2, eq2, hf⟩ := Option.bind_eq_some_iff.mp hf
  refine r_virtual (dGet dX12_passes (j := 8) rfl) L12_286 M244 rfl rfl (Nat.le_of_ble_eq_true rfl) (oX12_fails eq2) (cX12_fails X N (d + 2) v0 t1 h q2 eq2) ?_
  refine r_istore_n (lv' := [(2, .int q2.1), (0, .ref v0)]) (dGet dX12_passes (j := 9) rfl) (by decide) rfl ?_
  refine r_iconst (dGet dX12_passes (j := 10) rfl) kI_0 ?_
  have hq := Option.some.inj hf
  subst hq
  exact r_iret (dGet dX12_passes (j := 11) rfl) rfl (by decide)
def fX12_passes (N : Nat) (v0 : Nat) (v1 : Int32) (h : pH) : Option (Int32 × pH) := if isO h v0 12 = true then (
  (getI h v0 12 9).bind fun t3 =>
  if 0 ≤ t3 then (
  fX12_passes_11 N v0 h) else (
  if v1 = 0 then (
  fX12_passes_11 N v0 h) else (
  (fX12_next N v0 h).bind fun h6 =>
  some ((1 : Int32), h6)))) else none
theorem oX12_passes {N : Nat} {v0 : Nat} {v1 : Int32} {h : pH} {q : Int32 × pH} (hf : fX12_passes N v0 v1 h = some q) : isO h v0 12 = true := by
  unfold fX12_passes at hf
  by_cases hc : isO h v0 12 = true
  · exact hc
  · rw [if_neg hc] at hf; cases hf
theorem cX12_passes (X : pX) (N d : Nat) (v0 : Nat) (v1 : Int32) (h : pH) (q : Int32 × pH) (hf : fX12_passes N v0 v1 h = some q) : Calls X (d + 3) 243 [.ref v0, .int v1] h (some (.int q.1), q.2, 0, 0) := by
  refine Calls.of M243 (Nat.le_of_ble_eq_true rfl) ?_
  show Run X (d + 3) 12 false (pCd 8155) 3 (some .boolean) 0 [(0, .ref v0), (1, .int v1)] [] h 0 0 (some (.int q.1), q.2, 0, 0)
  unfold fX12_passes at hf
  by_cases hc : isO h v0 12 = true
  · rw [if_pos hc] at hf
    have nv0 : ¬ v0 = 4 := isO_ne hc
    refine r_aload_n (dGet dX12_passes (j := 0) rfl) nv0 rfl ?_
    obtain ⟨t3, et3, hf⟩ := Option.bind_eq_some_iff.mp hf
    refine r_getI (dGet dX12_passes (j := 1) rfl) F12_283 et3 ?_
    by_cases c4 : 0 ≤ t3
    · rw [if_pos c4] at hf
      refine r_if_ge_t (dGet dX12_passes (j := 2) rfl) rfl c4 ?_
      refine Run.weak [(0, .ref v0)] (by simp) (by simp [pNd]) ?_
      exact lX12_passes_11 X N d v0 h q hf nv0
    · rw [if_neg c4] at hf
      refine r_if_ge_f (dGet dX12_passes (j := 2) rfl) rfl c4 ?_
      refine r_iload_n (dGet dX12_passes (j := 3) rfl) rfl ?_
      by_cases c5 : v1 = 0
      · rw [if_pos c5] at hf
        refine r_if_ne_f (dGet dX12_passes (j := 4) rfl) rfl c5 ?_
        refine Run.weak [(0, .ref v0)] (by simp) (by simp [pNd]) ?_
        exact lX12_passes_11 X N d v0 h q hf nv0
      · rw [if_neg c5] at hf
        refine r_if_ne_t (dGet dX12_passes (j := 4) rfl) rfl c5 ?_
        refine r_aload_n (dGet dX12_passes (j := 12) rfl) nv0 rfl ?_
        obtain ⟨h6, eh6, hf⟩ := Option.bind_eq_some_iff.mp hf
        refine r_virtual (dGet dX12_passes (j := 13) rfl) L12_289 M233 rfl rfl (Nat.le_of_ble_eq_true rfl) (oX12_next eh6) (cX12_next X N (d + 0) v0 h h6 eh6) ?_
        refine r_iconst (dGet dX12_passes (j := 14) rfl) kI_1 ?_
        have hq := Option.some.inj hf
        subst hq
        exact r_iret (dGet dX12_passes (j := 15) rfl) rfl (by decide)
  · rw [if_neg hc] at hf; cases hf
def eX12_closes : List (Nat × Instr × Nat) := [(0, .aload_n 0, 1), (1, .aload_n 0, 1), (2, .iload_n 1, 1), (3, .invokevirtual 295, 3), (6, .invokevirtual 298, 3), (9, .ifCond .eq 13, 3), (12, .aload_n 0, 1), (13, .dup, 1), (14, .getfield 292, 3), (17, .iconst 1, 1), (18, .isub, 1), (19, .putfield 292, 3), (22, .return_, 1)]
theorem dX12_closes : dChk (pCd 8191) eX12_closes = true := by decide +kernel
def fX12_closes (N : Nat) (v0 : Nat) (v1 : Int32) (h : pH) : Option (pH) := if isO h v0 12 = true then (
  (fX12_isSign N v0 v1 h).bind fun q1 =>
  (fX12_passes N v0 q1.1 q1.2).bind fun q2 =>
  if q2.1 = 0 then (
  some q2.2) else (
  (getI q2.2 v0 12 10).bind fun t4 =>
  (putI q2.2 v0 12 10 (t4 - (1 : Int32))).bind fun h5 =>
  some h5)) else none
theorem oX12_closes {N : Nat} {v0 : Nat} {v1 : Int32} {h : pH} {q : pH} (hf : fX12_closes N v0 v1 h = some q) : isO h v0 12 = true := by
  unfold fX12_closes at hf
  by_cases hc : isO h v0 12 = true
  · exact hc
  · rw [if_neg hc] at hf; cases hf
theorem cX12_closes (X : pX) (N d : Nat) (v0 : Nat) (v1 : Int32) (h : pH) (q : pH) (hf : fX12_closes N v0 v1 h = some q) : Calls X (d + 4) 252 [.ref v0, .int v1] h (none, q, 0, 0) := by
  refine Calls.of M252 (Nat.le_of_ble_eq_true rfl) ?_
  show Run X (d + 4) 12 false (pCd 8191) 2 none 0 [(0, .ref v0), (1, .int v1)] [] h 0 0 (none, q, 0, 0)
  unfold fX12_closes at hf
  by_cases hc : isO h v0 12 = true
  · rw [if_pos hc] at hf
    have nv0 : ¬ v0 = 4 := isO_ne hc
    refine r_aload_n (dGet dX12_closes (j := 0) rfl) nv0 rfl ?_
    refine r_aload_n (dGet dX12_closes (j := 1) rfl) nv0 rfl ?_
    refine r_iload_n (dGet dX12_closes (j := 2) rfl) rfl ?_
    obtain ⟨q1, eq1, hf⟩ := Option.bind_eq_some_iff.mp hf
    refine r_virtual (dGet dX12_closes (j := 3) rfl) L12_295 M247 rfl rfl (Nat.le_of_ble_eq_true rfl) (oX12_isSign eq1) (cX12_isSign X N (d + 3) v0 v1 h q1 eq1) ?_
    obtain ⟨q2, eq2, hf⟩ := Option.bind_eq_some_iff.mp hf
    refine r_virtual (dGet dX12_closes (j := 4) rfl) L12_298 M243 rfl rfl (Nat.le_of_ble_eq_true rfl) (oX12_passes eq2) (cX12_passes X N (d + 0) v0 q1.1 q1.2 q2 eq2) ?_
    by_cases c3 : q2.1 = 0
    · rw [if_pos c3] at hf
      refine r_if_eq_t (dGet dX12_closes (j := 5) rfl) rfl c3 ?_
      have hq := Option.some.inj hf
      subst hq
      exact r_vret (dGet dX12_closes (j := 12) rfl) rfl
    · rw [if_neg c3] at hf
      refine r_if_eq_f (dGet dX12_closes (j := 5) rfl) rfl c3 ?_
      refine r_aload_n (dGet dX12_closes (j := 6) rfl) nv0 rfl ?_
      refine r_dup (dGet dX12_closes (j := 7) rfl) rfl ?_
      obtain ⟨t4, et4, hf⟩ := Option.bind_eq_some_iff.mp hf
      refine r_getI (dGet dX12_closes (j := 8) rfl) F12_292 et4 ?_
      refine r_iconst (dGet dX12_closes (j := 9) rfl) kI_1 ?_
      refine r_isub (dGet dX12_closes (j := 10) rfl) ?_
      obtain ⟨h5, eh5, hf⟩ := Option.bind_eq_some_iff.mp hf
      refine r_putI (dGet dX12_closes (j := 11) rfl) F12_292 rfl rfl eh5 ?_
      have hq := Option.some.inj hf
      subst hq
      exact r_vret (dGet dX12_closes (j := 12) rfl) rfl
  · rw [if_neg hc] at hf; cases hf
def eX12_opens : List (Nat × Instr × Nat) := [(0, .aload_n 0, 1), (1, .getfield 283, 3), (4, .ifCond .ge 16, 3), (7, .iload_n 1, 1), (8, .ifCond .eq 12, 3), (11, .aload_n 0, 1), (12, .getfield 292, 3), (15, .bipush 30, 2), (17, .if_icmp .ne 14, 3), (20, .aload_n 0, 1), (21, .aload_n 0, 1), (22, .getfield 246, 3), (25, .invokevirtual 286, 3), (28, .istore_n 2, 1), (29, .iconst 0, 1), (30, .ireturn, 1), (31, .aload_n 0, 1), (32, .dup, 1), (33, .getfield 292, 3), (36, .iconst 1, 1), (37, .iadd, 1), (38, .putfield 292, 3), (41, .aload_n 0, 1), (42, .invokevirtual 289, 3), (45, .iconst 1, 1), (46, .ireturn, 1)]
theorem dX12_opens : dChk (pCd 8175) eX12_opens = true := by decide +kernel
def fX12_opens_20 (N : Nat) (v0 : Nat) (h : pH) : Option (Int32 × pH) :=
  (getI h v0 12 6).bind fun t1 =>
  (fX12_fails N v0 t1 h).bind fun q2 =>
  some ((0 : Int32), q2.2)
theorem lX12_opens_20 (X : pX) (N d : Nat)  (v0 : Nat) (h : pH) (q : Int32 × pH) (hf : fX12_opens_20 N v0 h = some q) (nv0 : ¬ v0 = 4) : Run X (d + 3) 12 false (pCd 8175) 3 (some .boolean) 20 [(0, .ref v0)] [] h 0 0 (some (.int q.1), q.2, 0, 0) := by
  unfold fX12_opens_20 at hf
  refine r_aload_n (dGet dX12_opens (j := 9) rfl) nv0 rfl ?_
  refine r_aload_n (dGet dX12_opens (j := 10) rfl) nv0 rfl ?_
  obtain ⟨t1, et1, hf⟩ := Option.bind_eq_some_iff.mp hf
  refine r_getI (dGet dX12_opens (j := 11) rfl) F12_246 et1 ?_
  obtain ⟨q2, eq2, hf⟩ := Option.bind_eq_some_iff.mp hf
  refine r_virtual (dGet dX12_opens (j := 12) rfl) L12_286 M244 rfl rfl (Nat.le_of_ble_eq_true rfl) (oX12_fails eq2) (cX12_fails X N (d + 2) v0 t1 h q2 eq2) ?_
  refine r_istore_n (lv' := [(2, .int q2.1), (0, .ref v0)]) (dGet dX12_opens (j := 13) rfl) (by decide) rfl ?_
  refine r_iconst (dGet dX12_opens (j := 14) rfl) kI_0 ?_
  have hq := Option.some.inj hf
  subst hq
  exact r_iret (dGet dX12_opens (j := 15) rfl) rfl (by decide)
def fX12_opens (N : Nat) (v0 : Nat) (v1 : Int32) (h : pH) : Option (Int32 × pH) := if isO h v0 12 = true then (
  (getI h v0 12 9).bind fun t3 =>
  if 0 ≤ t3 then (
  fX12_opens_20 N v0 h) else (
  if v1 = 0 then (
  fX12_opens_20 N v0 h) else (
  (getI h v0 12 10).bind fun t6 =>
  if t6 = (30 : Int32) then (
  fX12_opens_20 N v0 h) else (
  (getI h v0 12 10).bind fun t8 =>
  (putI h v0 12 10 (t8 + (1 : Int32))).bind fun h9 =>
  (fX12_next N v0 h9).bind fun h10 =>
  some ((1 : Int32), h10))))) else none
theorem oX12_opens {N : Nat} {v0 : Nat} {v1 : Int32} {h : pH} {q : Int32 × pH} (hf : fX12_opens N v0 v1 h = some q) : isO h v0 12 = true := by
  unfold fX12_opens at hf
  by_cases hc : isO h v0 12 = true
  · exact hc
  · rw [if_neg hc] at hf; cases hf
theorem cX12_opens (X : pX) (N d : Nat) (v0 : Nat) (v1 : Int32) (h : pH) (q : Int32 × pH) (hf : fX12_opens N v0 v1 h = some q) : Calls X (d + 3) 248 [.ref v0, .int v1] h (some (.int q.1), q.2, 0, 0) := by
  refine Calls.of M248 (Nat.le_of_ble_eq_true rfl) ?_
  show Run X (d + 3) 12 false (pCd 8175) 3 (some .boolean) 0 [(0, .ref v0), (1, .int v1)] [] h 0 0 (some (.int q.1), q.2, 0, 0)
  unfold fX12_opens at hf
  by_cases hc : isO h v0 12 = true
  · rw [if_pos hc] at hf
    have nv0 : ¬ v0 = 4 := isO_ne hc
    refine r_aload_n (dGet dX12_opens (j := 0) rfl) nv0 rfl ?_
    obtain ⟨t3, et3, hf⟩ := Option.bind_eq_some_iff.mp hf
    refine r_getI (dGet dX12_opens (j := 1) rfl) F12_283 et3 ?_
    by_cases c4 : 0 ≤ t3
    · rw [if_pos c4] at hf
      refine r_if_ge_t (dGet dX12_opens (j := 2) rfl) rfl c4 ?_
      refine Run.weak [(0, .ref v0)] (by simp) (by simp [pNd]) ?_
      exact lX12_opens_20 X N d v0 h q hf nv0
    · rw [if_neg c4] at hf
      refine r_if_ge_f (dGet dX12_opens (j := 2) rfl) rfl c4 ?_
      refine r_iload_n (dGet dX12_opens (j := 3) rfl) rfl ?_
      by_cases c5 : v1 = 0
      · rw [if_pos c5] at hf
        refine r_if_eq_t (dGet dX12_opens (j := 4) rfl) rfl c5 ?_
        refine Run.weak [(0, .ref v0)] (by simp) (by simp [pNd]) ?_
        exact lX12_opens_20 X N d v0 h q hf nv0
      · rw [if_neg c5] at hf
        refine r_if_eq_f (dGet dX12_opens (j := 4) rfl) rfl c5 ?_
        refine r_aload_n (dGet dX12_opens (j := 5) rfl) nv0 rfl ?_
        obtain ⟨t6, et6, hf⟩ := Option.bind_eq_some_iff.mp hf
        refine r_getI (dGet dX12_opens (j := 6) rfl) F12_292 et6 ?_
        refine r_bipush (dGet dX12_opens (j := 7) rfl) kB_30 ?_
        by_cases c7 : t6 = (30 : Int32)
        · rw [if_pos c7] at hf
          refine r_icmp_ne_f (dGet dX12_opens (j := 8) rfl) rfl c7 ?_
          refine Run.weak [(0, .ref v0)] (by simp) (by simp [pNd]) ?_
          exact lX12_opens_20 X N d v0 h q hf nv0
        · rw [if_neg c7] at hf
          refine r_icmp_ne_t (dGet dX12_opens (j := 8) rfl) rfl c7 ?_
          refine r_aload_n (dGet dX12_opens (j := 16) rfl) nv0 rfl ?_
          refine r_dup (dGet dX12_opens (j := 17) rfl) rfl ?_
          obtain ⟨t8, et8, hf⟩ := Option.bind_eq_some_iff.mp hf
          refine r_getI (dGet dX12_opens (j := 18) rfl) F12_292 et8 ?_
          refine r_iconst (dGet dX12_opens (j := 19) rfl) kI_1 ?_
          refine r_iadd (dGet dX12_opens (j := 20) rfl) ?_
          obtain ⟨h9, eh9, hf⟩ := Option.bind_eq_some_iff.mp hf
          refine r_putI (dGet dX12_opens (j := 21) rfl) F12_292 rfl rfl eh9 ?_
          refine r_aload_n (dGet dX12_opens (j := 22) rfl) nv0 rfl ?_
          obtain ⟨h10, eh10, hf⟩ := Option.bind_eq_some_iff.mp hf
          refine r_virtual (dGet dX12_opens (j := 23) rfl) L12_289 M233 rfl rfl (Nat.le_of_ble_eq_true rfl) (oX12_next eh10) (cX12_next X N (d + 0) v0 h9 h10 eh10) ?_
          refine r_iconst (dGet dX12_opens (j := 24) rfl) kI_1 ?_
          have hq := Option.some.inj hf
          subst hq
          exact r_iret (dGet dX12_opens (j := 25) rfl) rfl (by decide)
  · rw [if_neg hc] at hf; cases hf
def eX12_isKey : List (Nat × Instr × Nat) := [(0, .aload_n 0, 1), (1, .getfield 263, 3), (4, .iconst 5, 1), (5, .if_icmp .ne 22, 3), (8, .aload_n 0, 1), (9, .getfield 256, 3), (12, .iload_n 1, 1), (13, .if_icmp .ne 14, 3), (16, .aload_n 0, 1), (17, .getfield 283, 3), (20, .ifCond .ge 7, 3), (23, .iconst 1, 1), (24, .goto 4, 3), (27, .iconst 0, 1), (28, .ireturn, 1)]
theorem dX12_isKey : dChk (pCd 8151) eX12_isKey = true := by decide +kernel
def fX12_isKey (N : Nat) (v0 : Nat) (v1 : Int32) (h : pH) : Option (Int32 × pH) := if isO h v0 12 = true then (
  (getI h v0 12 5).bind fun t1 =>
  if t1 = (5 : Int32) then (
  (getI h v0 12 8).bind fun t3 =>
  if t3 = v1 then (
  (getI h v0 12 9).bind fun t5 =>
  if 0 ≤ t5 then (
  some ((0 : Int32), h)) else (
  some ((1 : Int32), h))) else (
  some ((0 : Int32), h))) else (
  some ((0 : Int32), h))) else none
theorem oX12_isKey {N : Nat} {v0 : Nat} {v1 : Int32} {h : pH} {q : Int32 × pH} (hf : fX12_isKey N v0 v1 h = some q) : isO h v0 12 = true := by
  unfold fX12_isKey at hf
  by_cases hc : isO h v0 12 = true
  · exact hc
  · rw [if_neg hc] at hf; cases hf
theorem cX12_isKey (X : pX) (N d : Nat) (v0 : Nat) (v1 : Int32) (h : pH) (q : Int32 × pH) (hf : fX12_isKey N v0 v1 h = some q) : Calls X (d + 0) 242 [.ref v0, .int v1] h (some (.int q.1), q.2, 0, 0) := by
  refine Calls.of M242 (Nat.le_of_ble_eq_true rfl) ?_
  show Run X (d + 0) 12 false (pCd 8151) 2 (some .boolean) 0 [(0, .ref v0), (1, .int v1)] [] h 0 0 (some (.int q.1), q.2, 0, 0)
  unfold fX12_isKey at hf
  by_cases hc : isO h v0 12 = true
  · rw [if_pos hc] at hf
    have nv0 : ¬ v0 = 4 := isO_ne hc
    refine r_aload_n (dGet dX12_isKey (j := 0) rfl) nv0 rfl ?_
    obtain ⟨t1, et1, hf⟩ := Option.bind_eq_some_iff.mp hf
    refine r_getI (dGet dX12_isKey (j := 1) rfl) F12_263 et1 ?_
    refine r_iconst (dGet dX12_isKey (j := 2) rfl) kI_5 ?_
    by_cases c2 : t1 = (5 : Int32)
    · rw [if_pos c2] at hf
      refine r_icmp_ne_f (dGet dX12_isKey (j := 3) rfl) rfl c2 ?_
      refine r_aload_n (dGet dX12_isKey (j := 4) rfl) nv0 rfl ?_
      obtain ⟨t3, et3, hf⟩ := Option.bind_eq_some_iff.mp hf
      refine r_getI (dGet dX12_isKey (j := 5) rfl) F12_256 et3 ?_
      refine r_iload_n (dGet dX12_isKey (j := 6) rfl) rfl ?_
      by_cases c4 : t3 = v1
      · rw [if_pos c4] at hf
        refine r_icmp_ne_f (dGet dX12_isKey (j := 7) rfl) rfl c4 ?_
        refine r_aload_n (dGet dX12_isKey (j := 8) rfl) nv0 rfl ?_
        obtain ⟨t5, et5, hf⟩ := Option.bind_eq_some_iff.mp hf
        refine r_getI (dGet dX12_isKey (j := 9) rfl) F12_283 et5 ?_
        by_cases c6 : 0 ≤ t5
        · rw [if_pos c6] at hf
          refine r_if_ge_t (dGet dX12_isKey (j := 10) rfl) rfl c6 ?_
          refine r_iconst (dGet dX12_isKey (j := 13) rfl) kI_0 ?_
          have hq := Option.some.inj hf
          subst hq
          exact r_iret (dGet dX12_isKey (j := 14) rfl) rfl (by decide)
        · rw [if_neg c6] at hf
          refine r_if_ge_f (dGet dX12_isKey (j := 10) rfl) rfl c6 ?_
          refine r_iconst (dGet dX12_isKey (j := 11) rfl) kI_1 ?_
          refine r_goto (dGet dX12_isKey (j := 12) rfl) rfl ?_
          have hq := Option.some.inj hf
          subst hq
          exact r_iret (dGet dX12_isKey (j := 14) rfl) rfl (by decide)
      · rw [if_neg c4] at hf
        refine r_icmp_ne_t (dGet dX12_isKey (j := 7) rfl) rfl c4 ?_
        refine r_iconst (dGet dX12_isKey (j := 13) rfl) kI_0 ?_
        have hq := Option.some.inj hf
        subst hq
        exact r_iret (dGet dX12_isKey (j := 14) rfl) rfl (by decide)
    · rw [if_neg c2] at hf
      refine r_icmp_ne_t (dGet dX12_isKey (j := 3) rfl) rfl c2 ?_
      refine r_iconst (dGet dX12_isKey (j := 13) rfl) kI_0 ?_
      have hq := Option.some.inj hf
      subst hq
      exact r_iret (dGet dX12_isKey (j := 14) rfl) rfl (by decide)
  · rw [if_neg hc] at hf; cases hf
def eX12_name : List (Nat × Instr × Nat) := [(0, .aload_n 0, 1), (1, .getfield 256, 3), (4, .istore_n 1, 1), (5, .aload_n 0, 1), (6, .aload_n 0, 1), (7, .getfield 263, 3), (10, .iconst 2, 1), (11, .if_icmp .ne 7, 3), (14, .iconst 1, 1), (15, .goto 4, 3), (18, .iconst 0, 1), (19, .invokevirtual 298, 3), (22, .ifCond .eq 7, 3), (25, .iload_n 1, 1), (26, .goto 4, 3), (29, .iconst (-1), 1), (30, .ireturn, 1)]
theorem dX12_name : dChk (pCd 8167) eX12_name = true := by decide +kernel
def fX12_name_19 (N : Nat) (v1 : Int32) (s0 : Nat) (s1 : Int32) (h : pH) : Option (Int32 × pH) :=
  (fX12_passes N s0 s1 h).bind fun q1 =>
  if q1.1 = 0 then (
  some ((-1 : Int32), q1.2)) else (
  some (v1, q1.2))
theorem lX12_name_19 (X : pX) (N d : Nat)  (v1 : Int32) (s0 : Nat) (s1 : Int32) (h : pH) (q : Int32 × pH) (hf : fX12_name_19 N v1 s0 s1 h = some q) (ns0 : ¬ s0 = 4) : Run X (d + 4) 12 false (pCd 8167) 2 (some .int) 19 [(1, .int v1)] [.int s1, .ref s0] h 0 0 (some (.int q.1), q.2, 0, 0) := by
  unfold fX12_name_19 at hf
  obtain ⟨q1, eq1, hf⟩ := Option.bind_eq_some_iff.mp hf
  refine r_virtual (dGet dX12_name (j := 11) rfl) L12_298 M243 rfl rfl (Nat.le_of_ble_eq_true rfl) (oX12_passes eq1) (cX12_passes X N (d + 0) s0 s1 h q1 eq1) ?_
  by_cases c2 : q1.1 = 0
  · rw [if_pos c2] at hf
    refine r_if_eq_t (dGet dX12_name (j := 12) rfl) rfl c2 ?_
    refine r_iconst (dGet dX12_name (j := 15) rfl) kI_m1 ?_
    have hq := Option.some.inj hf
    subst hq
    exact r_iret (dGet dX12_name (j := 16) rfl) rfl rfl
  · rw [if_neg c2] at hf
    refine r_if_eq_f (dGet dX12_name (j := 12) rfl) rfl c2 ?_
    refine r_iload_n (dGet dX12_name (j := 13) rfl) rfl ?_
    refine r_goto (dGet dX12_name (j := 14) rfl) rfl ?_
    have hq := Option.some.inj hf
    subst hq
    exact r_iret (dGet dX12_name (j := 16) rfl) rfl rfl
def fX12_name (N : Nat) (v0 : Nat) (h : pH) : Option (Int32 × pH) := if isO h v0 12 = true then (
  (getI h v0 12 8).bind fun t3 =>
  (getI h v0 12 5).bind fun t4 =>
  if t4 = (2 : Int32) then (
  fX12_name_19 N t3 v0 (1 : Int32) h) else (
  fX12_name_19 N t3 v0 (0 : Int32) h)) else none
theorem oX12_name {N : Nat} {v0 : Nat} {h : pH} {q : Int32 × pH} (hf : fX12_name N v0 h = some q) : isO h v0 12 = true := by
  unfold fX12_name at hf
  by_cases hc : isO h v0 12 = true
  · exact hc
  · rw [if_neg hc] at hf; cases hf
theorem cX12_name (X : pX) (N d : Nat) (v0 : Nat) (h : pH) (q : Int32 × pH) (hf : fX12_name N v0 h = some q) : Calls X (d + 4) 246 [.ref v0] h (some (.int q.1), q.2, 0, 0) := by
  refine Calls.of M246 (Nat.le_of_ble_eq_true rfl) ?_
  show Run X (d + 4) 12 false (pCd 8167) 2 (some .int) 0 [(0, .ref v0)] [] h 0 0 (some (.int q.1), q.2, 0, 0)
  unfold fX12_name at hf
  by_cases hc : isO h v0 12 = true
  · rw [if_pos hc] at hf
    have nv0 : ¬ v0 = 4 := isO_ne hc
    refine r_aload_n (dGet dX12_name (j := 0) rfl) nv0 rfl ?_
    obtain ⟨t3, et3, hf⟩ := Option.bind_eq_some_iff.mp hf
    refine r_getI (dGet dX12_name (j := 1) rfl) F12_256 et3 ?_
    refine r_istore_n (lv' := [(1, .int t3), (0, .ref v0)]) (dGet dX12_name (j := 2) rfl) (by decide) rfl ?_
    refine r_aload_n (dGet dX12_name (j := 3) rfl) nv0 rfl ?_
    refine r_aload_n (dGet dX12_name (j := 4) rfl) nv0 rfl ?_
    obtain ⟨t4, et4, hf⟩ := Option.bind_eq_some_iff.mp hf
    refine r_getI (dGet dX12_name (j := 5) rfl) F12_263 et4 ?_
    refine r_iconst (dGet dX12_name (j := 6) rfl) kI_2 ?_
    by_cases c5 : t4 = (2 : Int32)
    · rw [if_pos c5] at hf
      refine r_icmp_ne_f (dGet dX12_name (j := 7) rfl) rfl c5 ?_
      refine r_iconst (dGet dX12_name (j := 8) rfl) kI_1 ?_
      refine r_goto (dGet dX12_name (j := 9) rfl) rfl ?_
      refine Run.weak [(1, .int t3)] (by simp) (by simp [pNd]) ?_
      exact lX12_name_19 X N d t3 v0 (1 : Int32) h q hf nv0
    · rw [if_neg c5] at hf
      refine r_icmp_ne_t (dGet dX12_name (j := 7) rfl) rfl c5 ?_
      refine r_iconst (dGet dX12_name (j := 10) rfl) kI_0 ?_
      refine Run.weak [(1, .int t3)] (by simp) (by simp [pNd]) ?_
      exact lX12_name_19 X N d t3 v0 (0 : Int32) h q hf nv0
  · rw [if_neg hc] at hf; cases hf
def eX12_node : List (Nat × Instr × Nat) := [(0, .aload_n 0, 1), (1, .getfield 25, 3), (4, .aload_n 0, 1), (5, .getfield 302, 3), (8, .iload_n 1, 1), (9, .iastore, 1), (10, .aload_n 0, 1), (11, .getfield 28, 3), (14, .aload_n 0, 1), (15, .getfield 302, 3), (18, .iload_n 2, 1), (19, .iastore, 1), (20, .aload_n 0, 1), (21, .getfield 31, 3), (24, .aload_n 0, 1), (25, .getfield 302, 3), (28, .iload_n 3, 1), (29, .iastore, 1), (30, .aload_n 0, 1), (31, .getfield 34, 3), (34, .aload_n 0, 1), (35, .getfield 302, 3), (38, .iload 4, 2), (40, .iastore, 1), (41, .aload_n 0, 1), (42, .dup, 1), (43, .getfield 302, 3), (46, .iconst 1, 1), (47, .iadd, 1), (48, .putfield 302, 3), (51, .aload_n 0, 1), (52, .getfield 302, 3), (55, .iconst 1, 1), (56, .isub, 1), (57, .ireturn, 1)]
theorem dX12_node : dChk (pCd 9007) eX12_node = true := by decide +kernel
def fX12_node (N : Nat) (v0 : Nat) (v1 : Int32) (v2 : Int32) (v3 : Int32) (v4 : Int32) (h : pH) : Option (Int32 × pH) := if isO h v0 12 = true then (
  (getR h v0 12 16).bind fun t1 =>
  (getI h v0 12 15).bind fun t2 =>
  (stI h t1 t2 v1).bind fun h3 =>
  (getR h3 v0 12 17).bind fun t4 =>
  (getI h3 v0 12 15).bind fun t5 =>
  (stI h3 t4 t5 v2).bind fun h6 =>
  (getR h6 v0 12 18).bind fun t7 =>
  (getI h6 v0 12 15).bind fun t8 =>
  (stI h6 t7 t8 v3).bind fun h9 =>
  (getR h9 v0 12 19).bind fun t10 =>
  (getI h9 v0 12 15).bind fun t11 =>
  (stI h9 t10 t11 v4).bind fun h12 =>
  (getI h12 v0 12 15).bind fun t13 =>
  (putI h12 v0 12 15 (t13 + (1 : Int32))).bind fun h14 =>
  (getI h14 v0 12 15).bind fun t15 =>
  some ((t15 - (1 : Int32)), h14)) else none
theorem oX12_node {N : Nat} {v0 : Nat} {v1 : Int32} {v2 : Int32} {v3 : Int32} {v4 : Int32} {h : pH} {q : Int32 × pH} (hf : fX12_node N v0 v1 v2 v3 v4 h = some q) : isO h v0 12 = true := by
  unfold fX12_node at hf
  by_cases hc : isO h v0 12 = true
  · exact hc
  · rw [if_neg hc] at hf; cases hf
theorem cX12_node (X : pX) (N d : Nat) (v0 : Nat) (v1 : Int32) (v2 : Int32) (v3 : Int32) (v4 : Int32) (h : pH) (q : Int32 × pH) (hf : fX12_node N v0 v1 v2 v3 v4 h = some q) : Calls X (d + 0) 266 [.ref v0, .int v1, .int v2, .int v3, .int v4] h (some (.int q.1), q.2, 0, 0) := by
  refine Calls.of M266 (Nat.le_of_ble_eq_true rfl) ?_
  show Run X (d + 0) 12 false (pCd 9007) 5 (some .int) 0 [(0, .ref v0), (1, .int v1), (2, .int v2), (3, .int v3), (4, .int v4)] [] h 0 0 (some (.int q.1), q.2, 0, 0)
  unfold fX12_node at hf
  by_cases hc : isO h v0 12 = true
  · rw [if_pos hc] at hf
    have nv0 : ¬ v0 = 4 := isO_ne hc
    refine r_aload_n (dGet dX12_node (j := 0) rfl) nv0 rfl ?_
    obtain ⟨t1, et1, hf⟩ := Option.bind_eq_some_iff.mp hf
    refine r_getR (dGet dX12_node (j := 1) rfl) F12_25 et1 ?_
    refine r_aload_n (dGet dX12_node (j := 2) rfl) nv0 rfl ?_
    obtain ⟨t2, et2, hf⟩ := Option.bind_eq_some_iff.mp hf
    refine r_getI (dGet dX12_node (j := 3) rfl) F12_302 et2 ?_
    refine r_iload_n (dGet dX12_node (j := 4) rfl) rfl ?_
    obtain ⟨h3, eh3, hf⟩ := Option.bind_eq_some_iff.mp hf
    refine r_iast (dGet dX12_node (j := 5) rfl) eh3 ?_
    refine r_aload_n (dGet dX12_node (j := 6) rfl) nv0 rfl ?_
    obtain ⟨t4, et4, hf⟩ := Option.bind_eq_some_iff.mp hf
    refine r_getR (dGet dX12_node (j := 7) rfl) F12_28 et4 ?_
    refine r_aload_n (dGet dX12_node (j := 8) rfl) nv0 rfl ?_
    obtain ⟨t5, et5, hf⟩ := Option.bind_eq_some_iff.mp hf
    refine r_getI (dGet dX12_node (j := 9) rfl) F12_302 et5 ?_
    refine r_iload_n (dGet dX12_node (j := 10) rfl) rfl ?_
    obtain ⟨h6, eh6, hf⟩ := Option.bind_eq_some_iff.mp hf
    refine r_iast (dGet dX12_node (j := 11) rfl) eh6 ?_
    refine r_aload_n (dGet dX12_node (j := 12) rfl) nv0 rfl ?_
    obtain ⟨t7, et7, hf⟩ := Option.bind_eq_some_iff.mp hf
    refine r_getR (dGet dX12_node (j := 13) rfl) F12_31 et7 ?_
    refine r_aload_n (dGet dX12_node (j := 14) rfl) nv0 rfl ?_
    obtain ⟨t8, et8, hf⟩ := Option.bind_eq_some_iff.mp hf
    refine r_getI (dGet dX12_node (j := 15) rfl) F12_302 et8 ?_
    refine r_iload_n (dGet dX12_node (j := 16) rfl) rfl ?_
    obtain ⟨h9, eh9, hf⟩ := Option.bind_eq_some_iff.mp hf
    refine r_iast (dGet dX12_node (j := 17) rfl) eh9 ?_
    refine r_aload_n (dGet dX12_node (j := 18) rfl) nv0 rfl ?_
    obtain ⟨t10, et10, hf⟩ := Option.bind_eq_some_iff.mp hf
    refine r_getR (dGet dX12_node (j := 19) rfl) F12_34 et10 ?_
    refine r_aload_n (dGet dX12_node (j := 20) rfl) nv0 rfl ?_
    obtain ⟨t11, et11, hf⟩ := Option.bind_eq_some_iff.mp hf
    refine r_getI (dGet dX12_node (j := 21) rfl) F12_302 et11 ?_
    refine r_iload (dGet dX12_node (j := 22) rfl) rfl ?_
    obtain ⟨h12, eh12, hf⟩ := Option.bind_eq_some_iff.mp hf
    refine r_iast (dGet dX12_node (j := 23) rfl) eh12 ?_
    refine r_aload_n (dGet dX12_node (j := 24) rfl) nv0 rfl ?_
    refine r_dup (dGet dX12_node (j := 25) rfl) rfl ?_
    obtain ⟨t13, et13, hf⟩ := Option.bind_eq_some_iff.mp hf
    refine r_getI (dGet dX12_node (j := 26) rfl) F12_302 et13 ?_
    refine r_iconst (dGet dX12_node (j := 27) rfl) kI_1 ?_
    refine r_iadd (dGet dX12_node (j := 28) rfl) ?_
    obtain ⟨h14, eh14, hf⟩ := Option.bind_eq_some_iff.mp hf
    refine r_putI (dGet dX12_node (j := 29) rfl) F12_302 rfl rfl eh14 ?_
    refine r_aload_n (dGet dX12_node (j := 30) rfl) nv0 rfl ?_
    obtain ⟨t15, et15, hf⟩ := Option.bind_eq_some_iff.mp hf
    refine r_getI (dGet dX12_node (j := 31) rfl) F12_302 et15 ?_
    refine r_iconst (dGet dX12_node (j := 32) rfl) kI_1 ?_
    refine r_isub (dGet dX12_node (j := 33) rfl) ?_
    have hq := Option.some.inj hf
    subst hq
    exact r_iret (dGet dX12_node (j := 34) rfl) rfl rfl
  · rw [if_neg hc] at hf; cases hf
def eX12_sum : List (Nat × Instr × Nat) := [(0, .aload_n 0, 1), (1, .invokevirtual 321, 3), (4, .istore_n 1, 1), (5, .aload_n 0, 1), (6, .bipush 43, 2), (8, .invokevirtual 295, 3), (11, .ifCond .ne 12, 3), (14, .aload_n 0, 1), (15, .bipush 45, 2), (17, .invokevirtual 295, 3), (20, .ifCond .eq 12, 3), (23, .aload_n 0, 1), (24, .iload_n 1, 1), (25, .invokevirtual 327, 3), (28, .istore_n 1, 1), (29, .goto (-24), 3), (32, .iload_n 1, 1), (33, .ireturn, 1)]
theorem dX12_sum : dChk (pCd 8227) eX12_sum = true := by decide +kernel
def fX12_sum_23 (N : Nat) (rc : Nat → List Value → pH → Option (Option Value × pH)) (k5 : Nat → Int32 → pH → Option (Int32 × pH)) (v0 : Nat) (v1 : Int32) (h : pH) : Option (Int32 × pH) :=
  (if isO h v0 12 = true then some () else none).bind fun _ =>
  (rcI rc 268 [.ref v0, .int v1] h).bind fun q2 =>
  k5 v0 q2.1 q2.2
theorem lX12_sum_23 (X : pX) (N d : Nat) (rc : Nat → List Value → pH → Option (Option Value × pH)) (hrc : ∀ mn as h q, rc mn as h = some q → Calls X (d + 4) mn as h (q.1, q.2, 0, 0))  (k5 : Nat → Int32 → pH → Option (Int32 × pH)) (K5 : ∀ (w0 : Nat) (w1 : Int32) (h : pH) (q : Int32 × pH), k5 w0 w1 h = some q → ¬ w0 = 4 → Run X (d + 5) 12 false (pCd 8227) 2 (some .int) 5 [(0, .ref w0), (1, .int w1)] [] h 0 0 (some (.int q.1), q.2, 0, 0)) (v0 : Nat) (v1 : Int32) (h : pH) (q : Int32 × pH) (hf : fX12_sum_23 N rc k5 v0 v1 h = some q) (nv0 : ¬ v0 = 4) : Run X (d + 5) 12 false (pCd 8227) 2 (some .int) 23 [(0, .ref v0), (1, .int v1)] [] h 0 0 (some (.int q.1), q.2, 0, 0) := by
  unfold fX12_sum_23 at hf
  refine r_aload_n (dGet dX12_sum (j := 11) rfl) nv0 rfl ?_
  refine r_iload_n (dGet dX12_sum (j := 12) rfl) rfl ?_
  obtain ⟨_, ec1, hf⟩ := Option.bind_eq_some_iff.mp hf
  obtain ⟨q2, eq2, hf⟩ := Option.bind_eq_some_iff.mp hf
  refine r_virtual (dGet dX12_sum (j := 13) rfl) L12_327 M268 rfl rfl (Nat.le_of_ble_eq_true rfl) (guard_of ec1) (rcI_calls hrc eq2) ?_
  refine r_istore_n (lv' := [(1, .int q2.1), (0, .ref v0)]) (dGet dX12_sum (j := 14) rfl) (by decide) rfl ?_
  refine r_goto (dGet dX12_sum (j := 15) rfl) rfl ?_
  refine Run.weak [(0, .ref v0), (1, .int q2.1)] (by simp) (by simp [pNd]) ?_
  exact K5 v0 q2.1 q2.2 q hf nv0
def fX12_sum_5 (N : Nat) (rc : Nat → List Value → pH → Option (Option Value × pH)) : Nat → Nat → Int32 → pH → Option (Int32 × pH)
  | 0, _, _, _ => none
  | n + 1, v0, v1, h => (fX12_isSign N v0 (43 : Int32) h).bind fun q3 =>
  if q3.1 = 0 then (
  (fX12_isSign N v0 (45 : Int32) q3.2).bind fun q5 =>
  if q5.1 = 0 then (
  some (v1, q5.2)) else (
  fX12_sum_23 N rc (fX12_sum_5 N rc n) v0 v1 q5.2)) else (
  fX12_sum_23 N rc (fX12_sum_5 N rc n) v0 v1 q3.2)
theorem lX12_sum_5 (X : pX) (N d : Nat) (rc : Nat → List Value → pH → Option (Option Value × pH)) (hrc : ∀ mn as h q, rc mn as h = some q → Calls X (d + 4) mn as h (q.1, q.2, 0, 0))  : ∀ (n : Nat) (v0 : Nat) (v1 : Int32) (h : pH) (q : Int32 × pH), fX12_sum_5 N rc n v0 v1 h = some q → ¬ v0 = 4 → Run X (d + 5) 12 false (pCd 8227) 2 (some .int) 5 [(0, .ref v0), (1, .int v1)] [] h 0 0 (some (.int q.1), q.2, 0, 0) := by
  intro n
  induction n with
  | zero => intro v0 v1 h q hf; cases hf
  | succ n ih =>
    intro v0 v1 h q hf nv0
    unfold fX12_sum_5 at hf
    refine r_aload_n (dGet dX12_sum (j := 3) rfl) nv0 rfl ?_
    refine r_bipush (dGet dX12_sum (j := 4) rfl) kB_43 ?_
    obtain ⟨q3, eq3, hf⟩ := Option.bind_eq_some_iff.mp hf
    refine r_virtual (dGet dX12_sum (j := 5) rfl) L12_295 M247 rfl rfl (Nat.le_of_ble_eq_true rfl) (oX12_isSign eq3) (cX12_isSign X N (d + 4) v0 (43 : Int32) h q3 eq3) ?_
    by_cases c4 : q3.1 = 0
    · rw [if_pos c4] at hf
      refine r_if_ne_f (dGet dX12_sum (j := 6) rfl) rfl c4 ?_
      refine r_aload_n (dGet dX12_sum (j := 7) rfl) nv0 rfl ?_
      refine r_bipush (dGet dX12_sum (j := 8) rfl) kB_45 ?_
      obtain ⟨q5, eq5, hf⟩ := Option.bind_eq_some_iff.mp hf
      refine r_virtual (dGet dX12_sum (j := 9) rfl) L12_295 M247 rfl rfl (Nat.le_of_ble_eq_true rfl) (oX12_isSign eq5) (cX12_isSign X N (d + 4) v0 (45 : Int32) q3.2 q5 eq5) ?_
      by_cases c6 : q5.1 = 0
      · rw [if_pos c6] at hf
        refine r_if_eq_t (dGet dX12_sum (j := 10) rfl) rfl c6 ?_
        refine r_iload_n (dGet dX12_sum (j := 16) rfl) rfl ?_
        have hq := Option.some.inj hf
        subst hq
        exact r_iret (dGet dX12_sum (j := 17) rfl) rfl rfl
      · rw [if_neg c6] at hf
        refine r_if_eq_f (dGet dX12_sum (j := 10) rfl) rfl c6 ?_
        exact lX12_sum_23 X N d rc hrc (fX12_sum_5 N rc n) ih v0 v1 q5.2 q hf nv0
    · rw [if_neg c4] at hf
      refine r_if_ne_t (dGet dX12_sum (j := 6) rfl) rfl c4 ?_
      exact lX12_sum_23 X N d rc hrc (fX12_sum_5 N rc n) ih v0 v1 q3.2 q hf nv0
def fX12_sum (N : Nat) (rc : Nat → List Value → pH → Option (Option Value × pH)) (v0 : Nat) (h : pH) : Option (Int32 × pH) := if isO h v0 12 = true then (
  (if isO h v0 12 = true then some () else none).bind fun _ =>
  (rcI rc 262 [.ref v0] h).bind fun q8 =>
  fX12_sum_5 N rc N v0 q8.1 q8.2) else none
theorem oX12_sum {N : Nat} {rc : Nat → List Value → pH → Option (Option Value × pH)} {v0 : Nat} {h : pH} {q : Int32 × pH} (hf : fX12_sum N rc v0 h = some q) : isO h v0 12 = true := by
  unfold fX12_sum at hf
  by_cases hc : isO h v0 12 = true
  · exact hc
  · rw [if_neg hc] at hf; cases hf
theorem cX12_sum (X : pX) (N d : Nat) (rc : Nat → List Value → pH → Option (Option Value × pH)) (hrc : ∀ mn as h q, rc mn as h = some q → Calls X (d + 4) mn as h (q.1, q.2, 0, 0)) (v0 : Nat) (h : pH) (q : Int32 × pH) (hf : fX12_sum N rc v0 h = some q) : Calls X (d + 5) 261 [.ref v0] h (some (.int q.1), q.2, 0, 0) := by
  refine Calls.of M261 (Nat.le_of_ble_eq_true rfl) ?_
  show Run X (d + 5) 12 false (pCd 8227) 2 (some .int) 0 [(0, .ref v0)] [] h 0 0 (some (.int q.1), q.2, 0, 0)
  unfold fX12_sum at hf
  by_cases hc : isO h v0 12 = true
  · rw [if_pos hc] at hf
    have nv0 : ¬ v0 = 4 := isO_ne hc
    refine r_aload_n (dGet dX12_sum (j := 0) rfl) nv0 rfl ?_
    obtain ⟨_, ec7, hf⟩ := Option.bind_eq_some_iff.mp hf
    obtain ⟨q8, eq8, hf⟩ := Option.bind_eq_some_iff.mp hf
    refine r_virtual (dGet dX12_sum (j := 1) rfl) L12_321 M262 rfl rfl (Nat.le_of_ble_eq_true rfl) (guard_of ec7) (rcI_calls hrc eq8) ?_
    refine r_istore_n (lv' := [(1, .int q8.1), (0, .ref v0)]) (dGet dX12_sum (j := 2) rfl) (by decide) rfl ?_
    refine Run.weak [(0, .ref v0), (1, .int q8.1)] (by simp) (by simp [pNd]) ?_
    exact lX12_sum_5 X N d rc hrc N v0 q8.1 q8.2 q hf nv0
  · rw [if_neg hc] at hf; cases hf
def eX12_first : List (Nat × Instr × Nat) := [(0, .aload_n 0, 1), (1, .getfield 283, 3), (4, .ifCond .lt 5, 3), (7, .iconst (-1), 1), (8, .ireturn, 1), (9, .aload_n 0, 1), (10, .getfield 263, 3), (13, .iconst 3, 1), (14, .if_icmp .ne 21, 3), (17, .aload_n 0, 1), (18, .getfield 256, 3), (21, .istore_n 1, 1), (22, .aload_n 0, 1), (23, .invokevirtual 289, 3), (26, .aload_n 0, 1), (27, .iconst 0, 1), (28, .iconst 0, 1), (29, .iconst 0, 1), (30, .iload_n 1, 1), (31, .invokevirtual 308, 3), (34, .ireturn, 1), (35, .aload_n 0, 1), (36, .getfield 263, 3), (39, .iconst 2, 1), (40, .if_icmp .ne 37, 3), (43, .aload_n 0, 1), (44, .invokevirtual 333, 3), (47, .istore_n 1, 1), (48, .aload_n 0, 1), (49, .bipush 40, 2), (51, .invokevirtual 295, 3), (54, .ifCond .eq 14, 3), (57, .aload_n 0, 1), (58, .bipush 9, 2), (60, .iconst (-1), 1), (61, .iload_n 1, 1), (62, .invokevirtual 345, 3), (65, .goto 11, 3), (68, .aload_n 0, 1), (69, .iconst 4, 1), (70, .iconst 0, 1), (71, .iconst 0, 1), (72, .iload_n 1, 1), (73, .invokevirtual 308, 3), (76, .ireturn, 1), (77, .aload_n 0, 1), (78, .bipush 40, 2), (80, .invokevirtual 295, 3), (83, .ifCond .eq 26, 3), (86, .aload_n 0, 1), (87, .iconst 1, 1), (88, .invokevirtual 339, 3), (91, .ifCond .ne 5, 3), (94, .iconst (-1), 1), (95, .ireturn, 1), (96, .aload_n 0, 1), (97, .invokevirtual 349, 3), (100, .istore_n 1, 1), (101, .aload_n 0, 1), (102, .bipush 41, 2), (104, .invokevirtual 352, 3), (107, .iload_n 1, 1), (108, .ireturn, 1), (109, .aload_n 0, 1), (110, .getfield 263, 3), (113, .iconst 5, 1), (114, .if_icmp .ne 20, 3), (117, .aload_n 0, 1), (118, .getfield 256, 3), (121, .i2l, 1), (122, .ldc2_w 362, 3), (125, .ldc2_w 364, 3), (128, .invokestatic 228, 3), (131, .ifCond .ne 12, 3), (134, .aload_n 0, 1), (135, .aload_n 0, 1), (136, .getfield 246, 3), (139, .invokevirtual 286, 3), (142, .ireturn, 1), (143, .aload_n 0, 1), (144, .getfield 256, 3), (147, .istore_n 1, 1), (148, .aload_n 0, 1), (149, .invokevirtual 289, 3), (152, .iload_n 1, 1), (153, .bipush 14, 2), (155, .if_icmp .ne 67, 3), (158, .aload_n 0, 1), (159, .iconst 4, 1), (160, .invokevirtual 330, 3), (163, .ifCond .ne 17, 3), (166, .aload_n 0, 1), (167, .invokevirtual 333, 3), (170, .istore_n 2, 1), (171, .aload_n 0, 1), (172, .iconst 5, 1), (173, .iconst 0, 1), (174, .iconst 0, 1), (175, .iload_n 2, 1), (176, .invokevirtual 308, 3), (179, .ireturn, 1), (180, .aload_n 0, 1), (181, .invokevirtual 289, 3), (184, .aload_n 0, 1), (185, .aload_n 0, 1), (186, .bipush 91, 2), (188, .invokevirtual 295, 3), (191, .invokevirtual 339, 3), (194, .ifCond .eq 10, 3), (197, .aload_n 0, 1), (198, .invokevirtual 349, 3), (201, .goto 4, 3), (204, .iconst (-1), 1), (205, .istore_n 2, 1), (206, .aload_n 0, 1), (207, .bipush 93, 2), (209, .invokevirtual 352, 3), (212, .aload_n 0, 1), (213, .bipush 12, 2), (215, .iload_n 2, 1), (216, .iconst 0, 1), (217, .iconst 0, 1), (218, .invokevirtual 308, 3), (221, .ireturn, 1), (222, .iload_n 1, 1), (223, .bipush 15, 2), (225, .if_icmp .ne 14, 3), (228, .aload_n 0, 1), (229, .iconst 1, 1), (230, .iconst 0, 1), (231, .iconst 0, 1), (232, .iconst 0, 1), (233, .invokevirtual 308, 3), (236, .goto 56, 3), (239, .iload_n 1, 1), (240, .bipush 18, 2), (242, .if_icmp .ne 14, 3), (245, .aload_n 0, 1), (246, .iconst 2, 1), (247, .iconst 0, 1), (248, .iconst 0, 1), (249, .iconst 0, 1), (250, .invokevirtual 308, 3), (253, .goto 39, 3), (256, .iload_n 1, 1), (257, .bipush 19, 2), (259, .if_icmp .ne 14, 3), (262, .aload_n 0, 1), (263, .iconst 3, 1), (264, .iconst 0, 1), (265, .iconst 0, 1), (266, .iconst 0, 1), (267, .invokevirtual 308, 3), (270, .goto 22, 3), (273, .aload_n 0, 1), (274, .bipush 21, 2), (276, .iconst 0, 1), (277, .iconst 0, 1), (278, .iload_n 1, 1), (279, .bipush 16, 2), (281, .if_icmp .ne 7, 3), (284, .iconst 1, 1), (285, .goto 4, 3), (288, .iconst 0, 1), (289, .invokevirtual 308, 3), (292, .ireturn, 1)]
theorem dX12_first : dChk (pCd 9003) eX12_first = true := by decide +kernel
def fX12_first_289 (N : Nat) (rc : Nat → List Value → pH → Option (Option Value × pH)) (s0 : Nat) (s1 : Int32) (s2 : Int32) (s3 : Int32) (s4 : Int32) (h : pH) : Option (Int32 × pH) :=
  (fX12_node N s0 s1 s2 s3 s4 h).bind fun q1 =>
  some (q1.1, q1.2)
theorem lX12_first_289 (X : pX) (N d : Nat) (rc : Nat → List Value → pH → Option (Option Value × pH)) (hrc : ∀ mn as h q, rc mn as h = some q → Calls X (d + 4) mn as h (q.1, q.2, 0, 0))  (s0 : Nat) (s1 : Int32) (s2 : Int32) (s3 : Int32) (s4 : Int32) (h : pH) (q : Int32 × pH) (hf : fX12_first_289 N rc s0 s1 s2 s3 s4 h = some q) (ns0 : ¬ s0 = 4) : Run X (d + 5) 12 false (pCd 9003) 3 (some .int) 289 [] [.int s4, .int s3, .int s2, .int s1, .ref s0] h 0 0 (some (.int q.1), q.2, 0, 0) := by
  unfold fX12_first_289 at hf
  obtain ⟨q1, eq1, hf⟩ := Option.bind_eq_some_iff.mp hf
  refine r_virtual (dGet dX12_first (j := 164) rfl) L12_308 M266 rfl rfl (Nat.le_of_ble_eq_true rfl) (oX12_node eq1) (cX12_node X N (d + 4) s0 s1 s2 s3 s4 h q1 eq1) ?_
  have hq := Option.some.inj hf
  subst hq
  exact r_iret (dGet dX12_first (j := 165) rfl) rfl rfl
def fX12_first_205 (N : Nat) (rc : Nat → List Value → pH → Option (Option Value × pH)) (v0 : Nat) (s0 : Int32) (h : pH) : Option (Int32 × pH) :=
  (fX12_closes N v0 (93 : Int32) h).bind fun h2 =>
  (fX12_node N v0 (12 : Int32) s0 (0 : Int32) (0 : Int32) h2).bind fun q3 =>
  some (q3.1, q3.2)
theorem lX12_first_205 (X : pX) (N d : Nat) (rc : Nat → List Value → pH → Option (Option Value × pH)) (hrc : ∀ mn as h q, rc mn as h = some q → Calls X (d + 4) mn as h (q.1, q.2, 0, 0))  (v0 : Nat) (s0 : Int32) (h : pH) (q : Int32 × pH) (hf : fX12_first_205 N rc v0 s0 h = some q) (nv0 : ¬ v0 = 4) : Run X (d + 5) 12 false (pCd 9003) 3 (some .int) 205 [(0, .ref v0)] [.int s0] h 0 0 (some (.int q.1), q.2, 0, 0) := by
  unfold fX12_first_205 at hf
  refine r_istore_n (lv' := [(2, .int s0), (0, .ref v0)]) (dGet dX12_first (j := 113) rfl) (by decide) rfl ?_
  refine r_aload_n (dGet dX12_first (j := 114) rfl) nv0 rfl ?_
  refine r_bipush (dGet dX12_first (j := 115) rfl) kB_93 ?_
  obtain ⟨h2, eh2, hf⟩ := Option.bind_eq_some_iff.mp hf
  refine r_virtual (dGet dX12_first (j := 116) rfl) L12_352 M252 rfl rfl (Nat.le_of_ble_eq_true rfl) (oX12_closes eh2) (cX12_closes X N (d + 0) v0 (93 : Int32) h h2 eh2) ?_
  refine r_aload_n (dGet dX12_first (j := 117) rfl) nv0 rfl ?_
  refine r_bipush (dGet dX12_first (j := 118) rfl) kB_12 ?_
  refine r_iload_n (dGet dX12_first (j := 119) rfl) rfl ?_
  refine r_iconst (dGet dX12_first (j := 120) rfl) kI_0 ?_
  refine r_iconst (dGet dX12_first (j := 121) rfl) kI_0 ?_
  obtain ⟨q3, eq3, hf⟩ := Option.bind_eq_some_iff.mp hf
  refine r_virtual (dGet dX12_first (j := 122) rfl) L12_308 M266 rfl rfl (Nat.le_of_ble_eq_true rfl) (oX12_node eq3) (cX12_node X N (d + 4) v0 (12 : Int32) s0 (0 : Int32) (0 : Int32) h2 q3 eq3) ?_
  have hq := Option.some.inj hf
  subst hq
  exact r_iret (dGet dX12_first (j := 123) rfl) rfl rfl
def fX12_first_134 (N : Nat) (rc : Nat → List Value → pH → Option (Option Value × pH)) (v0 : Nat) (h : pH) : Option (Int32 × pH) :=
  (getI h v0 12 6).bind fun t4 =>
  (fX12_fails N v0 t4 h).bind fun q5 =>
  some (q5.1, q5.2)
theorem lX12_first_134 (X : pX) (N d : Nat) (rc : Nat → List Value → pH → Option (Option Value × pH)) (hrc : ∀ mn as h q, rc mn as h = some q → Calls X (d + 4) mn as h (q.1, q.2, 0, 0))  (v0 : Nat) (h : pH) (q : Int32 × pH) (hf : fX12_first_134 N rc v0 h = some q) (nv0 : ¬ v0 = 4) : Run X (d + 5) 12 false (pCd 9003) 3 (some .int) 134 [(0, .ref v0)] [] h 0 0 (some (.int q.1), q.2, 0, 0) := by
  unfold fX12_first_134 at hf
  refine r_aload_n (dGet dX12_first (j := 74) rfl) nv0 rfl ?_
  refine r_aload_n (dGet dX12_first (j := 75) rfl) nv0 rfl ?_
  obtain ⟨t4, et4, hf⟩ := Option.bind_eq_some_iff.mp hf
  refine r_getI (dGet dX12_first (j := 76) rfl) F12_246 et4 ?_
  obtain ⟨q5, eq5, hf⟩ := Option.bind_eq_some_iff.mp hf
  refine r_virtual (dGet dX12_first (j := 77) rfl) L12_286 M244 rfl rfl (Nat.le_of_ble_eq_true rfl) (oX12_fails eq5) (cX12_fails X N (d + 4) v0 t4 h q5 eq5) ?_
  have hq := Option.some.inj hf
  subst hq
  exact r_iret (dGet dX12_first (j := 78) rfl) rfl rfl
def fX12_first (N : Nat) (rc : Nat → List Value → pH → Option (Option Value × pH)) (v0 : Nat) (h : pH) : Option (Int32 × pH) := if isO h v0 12 = true then (
  (getI h v0 12 9).bind fun t6 =>
  if t6 < 0 then (
  (getI h v0 12 5).bind fun t8 =>
  if t8 = (3 : Int32) then (
  (getI h v0 12 8).bind fun t50 =>
  (fX12_next N v0 h).bind fun h51 =>
  (fX12_node N v0 (0 : Int32) (0 : Int32) (0 : Int32) t50 h51).bind fun q52 =>
  some (q52.1, q52.2)) else (
  (getI h v0 12 5).bind fun t10 =>
  if t10 = (2 : Int32) then (
  (fX12_name N v0 h).bind fun q44 =>
  (fX12_isSign N v0 (40 : Int32) q44.2).bind fun q45 =>
  if q45.1 = 0 then (
  (fX12_node N v0 (4 : Int32) (0 : Int32) (0 : Int32) q44.1 q45.2).bind fun q47 =>
  some (q47.1, q47.2)) else (
  (if isO q45.2 v0 12 = true then some () else none).bind fun _ =>
  (rcI rc 267 [.ref v0, .int (9 : Int32), .int (-1 : Int32), .int q44.1] q45.2).bind fun q49 =>
  some (q49.1, q49.2))) else (
  (fX12_isSign N v0 (40 : Int32) h).bind fun q12 =>
  if q12.1 = 0 then (
  (getI q12.2 v0 12 5).bind fun t14 =>
  if t14 = (5 : Int32) then (
  (getI q12.2 v0 12 8).bind fun t16 =>
  (fX12_isIn N (t16.toInt64) (14 : Int64) (19 : Int64) q12.2).bind fun q17 =>
  if q17.1 = 0 then (
  fX12_first_134 N rc v0 q17.2) else (
  (getI q17.2 v0 12 8).bind fun t19 =>
  (fX12_next N v0 q17.2).bind fun h20 =>
  if t19 = (14 : Int32) then (
  (fX12_isKey N v0 (4 : Int32) h20).bind fun q29 =>
  if q29.1 = 0 then (
  (fX12_name N v0 q29.2).bind fun q37 =>
  (fX12_node N v0 (5 : Int32) (0 : Int32) (0 : Int32) q37.1 q37.2).bind fun q38 =>
  some (q38.1, q38.2)) else (
  (fX12_next N v0 q29.2).bind fun h31 =>
  (fX12_isSign N v0 (91 : Int32) h31).bind fun q32 =>
  (fX12_opens N v0 q32.1 q32.2).bind fun q33 =>
  if q33.1 = 0 then (
  fX12_first_205 N rc v0 (-1 : Int32) q33.2) else (
  (if isO q33.2 v0 12 = true then some () else none).bind fun _ =>
  (rcI rc 257 [.ref v0] q33.2).bind fun q36 =>
  fX12_first_205 N rc v0 q36.1 q36.2))) else (
  if t19 = (15 : Int32) then (
  (fX12_node N v0 (1 : Int32) (0 : Int32) (0 : Int32) (0 : Int32) h20).bind fun q28 =>
  some (q28.1, q28.2)) else (
  if t19 = (18 : Int32) then (
  (fX12_node N v0 (2 : Int32) (0 : Int32) (0 : Int32) (0 : Int32) h20).bind fun q27 =>
  some (q27.1, q27.2)) else (
  if t19 = (19 : Int32) then (
  (fX12_node N v0 (3 : Int32) (0 : Int32) (0 : Int32) (0 : Int32) h20).bind fun q26 =>
  some (q26.1, q26.2)) else (
  if t19 = (16 : Int32) then (
  fX12_first_289 N rc v0 (21 : Int32) (0 : Int32) (0 : Int32) (1 : Int32) h20) else (
  fX12_first_289 N rc v0 (21 : Int32) (0 : Int32) (0 : Int32) (0 : Int32) h20))))))) else (
  fX12_first_134 N rc v0 q12.2)) else (
  (fX12_opens N v0 (1 : Int32) q12.2).bind fun q39 =>
  if q39.1 = 0 then (
  some ((-1 : Int32), q39.2)) else (
  (if isO q39.2 v0 12 = true then some () else none).bind fun _ =>
  (rcI rc 257 [.ref v0] q39.2).bind fun q42 =>
  (fX12_closes N v0 (41 : Int32) q42.2).bind fun h43 =>
  some (q42.1, h43)))))) else (
  some ((-1 : Int32), h))) else none
theorem oX12_first {N : Nat} {rc : Nat → List Value → pH → Option (Option Value × pH)} {v0 : Nat} {h : pH} {q : Int32 × pH} (hf : fX12_first N rc v0 h = some q) : isO h v0 12 = true := by
  unfold fX12_first at hf
  by_cases hc : isO h v0 12 = true
  · exact hc
  · rw [if_neg hc] at hf; cases hf
theorem cX12_first (X : pX) (N d : Nat) (rc : Nat → List Value → pH → Option (Option Value × pH)) (hrc : ∀ mn as h q, rc mn as h = some q → Calls X (d + 4) mn as h (q.1, q.2, 0, 0)) (v0 : Nat) (h : pH) (q : Int32 × pH) (hf : fX12_first N rc v0 h = some q) : Calls X (d + 5) 265 [.ref v0] h (some (.int q.1), q.2, 0, 0) := by
  refine Calls.of M265 (Nat.le_of_ble_eq_true rfl) ?_
  show Run X (d + 5) 12 false (pCd 9003) 3 (some .int) 0 [(0, .ref v0)] [] h 0 0 (some (.int q.1), q.2, 0, 0)
  unfold fX12_first at hf
  by_cases hc : isO h v0 12 = true
  · rw [if_pos hc] at hf
    have nv0 : ¬ v0 = 4 := isO_ne hc
    refine r_aload_n (dGet dX12_first (j := 0) rfl) nv0 rfl ?_
    obtain ⟨t6, et6, hf⟩ := Option.bind_eq_some_iff.mp hf
    refine r_getI (dGet dX12_first (j := 1) rfl) F12_283 et6 ?_
    by_cases c7 : t6 < 0
    · rw [if_pos c7] at hf
      refine r_if_lt_t (dGet dX12_first (j := 2) rfl) rfl c7 ?_
      refine r_aload_n (dGet dX12_first (j := 5) rfl) nv0 rfl ?_
      obtain ⟨t8, et8, hf⟩ := Option.bind_eq_some_iff.mp hf
      refine r_getI (dGet dX12_first (j := 6) rfl) F12_263 et8 ?_
      refine r_iconst (dGet dX12_first (j := 7) rfl) kI_3 ?_
      by_cases c9 : t8 = (3 : Int32)
      · rw [if_pos c9] at hf
        refine r_icmp_ne_f (dGet dX12_first (j := 8) rfl) rfl c9 ?_
        refine r_aload_n (dGet dX12_first (j := 9) rfl) nv0 rfl ?_
        obtain ⟨t50, et50, hf⟩ := Option.bind_eq_some_iff.mp hf
        refine r_getI (dGet dX12_first (j := 10) rfl) F12_256 et50 ?_
        refine r_istore_n (lv' := [(1, .int t50), (0, .ref v0)]) (dGet dX12_first (j := 11) rfl) (by decide) rfl ?_
        refine r_aload_n (dGet dX12_first (j := 12) rfl) nv0 rfl ?_
        obtain ⟨h51, eh51, hf⟩ := Option.bind_eq_some_iff.mp hf
        refine r_virtual (dGet dX12_first (j := 13) rfl) L12_289 M233 rfl rfl (Nat.le_of_ble_eq_true rfl) (oX12_next eh51) (cX12_next X N (d + 2) v0 h h51 eh51) ?_
        refine r_aload_n (dGet dX12_first (j := 14) rfl) nv0 rfl ?_
        refine r_iconst (dGet dX12_first (j := 15) rfl) kI_0 ?_
        refine r_iconst (dGet dX12_first (j := 16) rfl) kI_0 ?_
        refine r_iconst (dGet dX12_first (j := 17) rfl) kI_0 ?_
        refine r_iload_n (dGet dX12_first (j := 18) rfl) rfl ?_
        obtain ⟨q52, eq52, hf⟩ := Option.bind_eq_some_iff.mp hf
        refine r_virtual (dGet dX12_first (j := 19) rfl) L12_308 M266 rfl rfl (Nat.le_of_ble_eq_true rfl) (oX12_node eq52) (cX12_node X N (d + 4) v0 (0 : Int32) (0 : Int32) (0 : Int32) t50 h51 q52 eq52) ?_
        have hq := Option.some.inj hf
        subst hq
        exact r_iret (dGet dX12_first (j := 20) rfl) rfl rfl
      · rw [if_neg c9] at hf
        refine r_icmp_ne_t (dGet dX12_first (j := 8) rfl) rfl c9 ?_
        refine r_aload_n (dGet dX12_first (j := 21) rfl) nv0 rfl ?_
        obtain ⟨t10, et10, hf⟩ := Option.bind_eq_some_iff.mp hf
        refine r_getI (dGet dX12_first (j := 22) rfl) F12_263 et10 ?_
        refine r_iconst (dGet dX12_first (j := 23) rfl) kI_2 ?_
        by_cases c11 : t10 = (2 : Int32)
        · rw [if_pos c11] at hf
          refine r_icmp_ne_f (dGet dX12_first (j := 24) rfl) rfl c11 ?_
          refine r_aload_n (dGet dX12_first (j := 25) rfl) nv0 rfl ?_
          obtain ⟨q44, eq44, hf⟩ := Option.bind_eq_some_iff.mp hf
          refine r_virtual (dGet dX12_first (j := 26) rfl) L12_333 M246 rfl rfl (Nat.le_of_ble_eq_true rfl) (oX12_name eq44) (cX12_name X N (d + 0) v0 h q44 eq44) ?_
          refine r_istore_n (lv' := [(1, .int q44.1), (0, .ref v0)]) (dGet dX12_first (j := 27) rfl) (by decide) rfl ?_
          refine r_aload_n (dGet dX12_first (j := 28) rfl) nv0 rfl ?_
          refine r_bipush (dGet dX12_first (j := 29) rfl) kB_40 ?_
          obtain ⟨q45, eq45, hf⟩ := Option.bind_eq_some_iff.mp hf
          refine r_virtual (dGet dX12_first (j := 30) rfl) L12_295 M247 rfl rfl (Nat.le_of_ble_eq_true rfl) (oX12_isSign eq45) (cX12_isSign X N (d + 4) v0 (40 : Int32) q44.2 q45 eq45) ?_
          by_cases c46 : q45.1 = 0
          · rw [if_pos c46] at hf
            refine r_if_eq_t (dGet dX12_first (j := 31) rfl) rfl c46 ?_
            refine r_aload_n (dGet dX12_first (j := 38) rfl) nv0 rfl ?_
            refine r_iconst (dGet dX12_first (j := 39) rfl) kI_4 ?_
            refine r_iconst (dGet dX12_first (j := 40) rfl) kI_0 ?_
            refine r_iconst (dGet dX12_first (j := 41) rfl) kI_0 ?_
            refine r_iload_n (dGet dX12_first (j := 42) rfl) rfl ?_
            obtain ⟨q47, eq47, hf⟩ := Option.bind_eq_some_iff.mp hf
            refine r_virtual (dGet dX12_first (j := 43) rfl) L12_308 M266 rfl rfl (Nat.le_of_ble_eq_true rfl) (oX12_node eq47) (cX12_node X N (d + 4) v0 (4 : Int32) (0 : Int32) (0 : Int32) q44.1 q45.2 q47 eq47) ?_
            have hq := Option.some.inj hf
            subst hq
            exact r_iret (dGet dX12_first (j := 44) rfl) rfl rfl
          · rw [if_neg c46] at hf
            refine r_if_eq_f (dGet dX12_first (j := 31) rfl) rfl c46 ?_
            refine r_aload_n (dGet dX12_first (j := 32) rfl) nv0 rfl ?_
            refine r_bipush (dGet dX12_first (j := 33) rfl) kB_9 ?_
            refine r_iconst (dGet dX12_first (j := 34) rfl) kI_m1 ?_
            refine r_iload_n (dGet dX12_first (j := 35) rfl) rfl ?_
            obtain ⟨_, ec48, hf⟩ := Option.bind_eq_some_iff.mp hf
            obtain ⟨q49, eq49, hf⟩ := Option.bind_eq_some_iff.mp hf
            refine r_virtual (dGet dX12_first (j := 36) rfl) L12_345 M267 rfl rfl (Nat.le_of_ble_eq_true rfl) (guard_of ec48) (rcI_calls hrc eq49) ?_
            refine r_goto (dGet dX12_first (j := 37) rfl) rfl ?_
            have hq := Option.some.inj hf
            subst hq
            exact r_iret (dGet dX12_first (j := 44) rfl) rfl rfl
        · rw [if_neg c11] at hf
          refine r_icmp_ne_t (dGet dX12_first (j := 24) rfl) rfl c11 ?_
          refine r_aload_n (dGet dX12_first (j := 45) rfl) nv0 rfl ?_
          refine r_bipush (dGet dX12_first (j := 46) rfl) kB_40 ?_
          obtain ⟨q12, eq12, hf⟩ := Option.bind_eq_some_iff.mp hf
          refine r_virtual (dGet dX12_first (j := 47) rfl) L12_295 M247 rfl rfl (Nat.le_of_ble_eq_true rfl) (oX12_isSign eq12) (cX12_isSign X N (d + 4) v0 (40 : Int32) h q12 eq12) ?_
          by_cases c13 : q12.1 = 0
          · rw [if_pos c13] at hf
            refine r_if_eq_t (dGet dX12_first (j := 48) rfl) rfl c13 ?_
            refine r_aload_n (dGet dX12_first (j := 63) rfl) nv0 rfl ?_
            obtain ⟨t14, et14, hf⟩ := Option.bind_eq_some_iff.mp hf
            refine r_getI (dGet dX12_first (j := 64) rfl) F12_263 et14 ?_
            refine r_iconst (dGet dX12_first (j := 65) rfl) kI_5 ?_
            by_cases c15 : t14 = (5 : Int32)
            · rw [if_pos c15] at hf
              refine r_icmp_ne_f (dGet dX12_first (j := 66) rfl) rfl c15 ?_
              refine r_aload_n (dGet dX12_first (j := 67) rfl) nv0 rfl ?_
              obtain ⟨t16, et16, hf⟩ := Option.bind_eq_some_iff.mp hf
              refine r_getI (dGet dX12_first (j := 68) rfl) F12_256 et16 ?_
              refine r_i2l (dGet dX12_first (j := 69) rfl) ?_
              refine r_ldc2 (v := 14) (dGet dX12_first (j := 70) rfl) (by decide +kernel : pFind pKl 12 362 = some (14, 9012)) ?_
              refine r_ldc2 (v := 19) (dGet dX12_first (j := 71) rfl) (by decide +kernel : pFind pKl 12 364 = some (19, 9013)) ?_
              obtain ⟨q17, eq17, hf⟩ := Option.bind_eq_some_iff.mp hf
              refine r_static (dGet dX12_first (j := 72) rfl) (by decide +kernel) (by decide +kernel) L12_228 M236 rfl rfl (Nat.le_of_ble_eq_true rfl) (cX12_isIn X N (d + 4) (t16.toInt64) (14 : Int64) (19 : Int64) q12.2 q17 eq17) ?_
              by_cases c18 : q17.1 = 0
              · rw [if_pos c18] at hf
                refine r_if_ne_f (dGet dX12_first (j := 73) rfl) rfl c18 ?_
                exact lX12_first_134 X N d rc hrc v0 q17.2 q hf nv0
              · rw [if_neg c18] at hf
                refine r_if_ne_t (dGet dX12_first (j := 73) rfl) rfl c18 ?_
                refine r_aload_n (dGet dX12_first (j := 79) rfl) nv0 rfl ?_
                obtain ⟨t19, et19, hf⟩ := Option.bind_eq_some_iff.mp hf
                refine r_getI (dGet dX12_first (j := 80) rfl) F12_256 et19 ?_
                refine r_istore_n (lv' := [(1, .int t19), (0, .ref v0)]) (dGet dX12_first (j := 81) rfl) (by decide) rfl ?_
                refine r_aload_n (dGet dX12_first (j := 82) rfl) nv0 rfl ?_
                obtain ⟨h20, eh20, hf⟩ := Option.bind_eq_some_iff.mp hf
                refine r_virtual (dGet dX12_first (j := 83) rfl) L12_289 M233 rfl rfl (Nat.le_of_ble_eq_true rfl) (oX12_next eh20) (cX12_next X N (d + 2) v0 q17.2 h20 eh20) ?_
                refine r_iload_n (dGet dX12_first (j := 84) rfl) rfl ?_
                refine r_bipush (dGet dX12_first (j := 85) rfl) kB_14 ?_
                by_cases c21 : t19 = (14 : Int32)
                · rw [if_pos c21] at hf
                  refine r_icmp_ne_f (dGet dX12_first (j := 86) rfl) rfl c21 ?_
                  refine r_aload_n (dGet dX12_first (j := 87) rfl) nv0 rfl ?_
                  refine r_iconst (dGet dX12_first (j := 88) rfl) kI_4 ?_
                  obtain ⟨q29, eq29, hf⟩ := Option.bind_eq_some_iff.mp hf
                  refine r_virtual (dGet dX12_first (j := 89) rfl) L12_330 M242 rfl rfl (Nat.le_of_ble_eq_true rfl) (oX12_isKey eq29) (cX12_isKey X N (d + 4) v0 (4 : Int32) h20 q29 eq29) ?_
                  by_cases c30 : q29.1 = 0
                  · rw [if_pos c30] at hf
                    refine r_if_ne_f (dGet dX12_first (j := 90) rfl) rfl c30 ?_
                    refine r_aload_n (dGet dX12_first (j := 91) rfl) nv0 rfl ?_
                    obtain ⟨q37, eq37, hf⟩ := Option.bind_eq_some_iff.mp hf
                    refine r_virtual (dGet dX12_first (j := 92) rfl) L12_333 M246 rfl rfl (Nat.le_of_ble_eq_true rfl) (oX12_name eq37) (cX12_name X N (d + 0) v0 q29.2 q37 eq37) ?_
                    refine r_istore_n (lv' := [(2, .int q37.1), (1, .int t19), (0, .ref v0)]) (dGet dX12_first (j := 93) rfl) (by decide) rfl ?_
                    refine r_aload_n (dGet dX12_first (j := 94) rfl) nv0 rfl ?_
                    refine r_iconst (dGet dX12_first (j := 95) rfl) kI_5 ?_
                    refine r_iconst (dGet dX12_first (j := 96) rfl) kI_0 ?_
                    refine r_iconst (dGet dX12_first (j := 97) rfl) kI_0 ?_
                    refine r_iload_n (dGet dX12_first (j := 98) rfl) rfl ?_
                    obtain ⟨q38, eq38, hf⟩ := Option.bind_eq_some_iff.mp hf
                    refine r_virtual (dGet dX12_first (j := 99) rfl) L12_308 M266 rfl rfl (Nat.le_of_ble_eq_true rfl) (oX12_node eq38) (cX12_node X N (d + 4) v0 (5 : Int32) (0 : Int32) (0 : Int32) q37.1 q37.2 q38 eq38) ?_
                    have hq := Option.some.inj hf
                    subst hq
                    exact r_iret (dGet dX12_first (j := 100) rfl) rfl rfl
                  · rw [if_neg c30] at hf
                    refine r_if_ne_t (dGet dX12_first (j := 90) rfl) rfl c30 ?_
                    refine r_aload_n (dGet dX12_first (j := 101) rfl) nv0 rfl ?_
                    obtain ⟨h31, eh31, hf⟩ := Option.bind_eq_some_iff.mp hf
                    refine r_virtual (dGet dX12_first (j := 102) rfl) L12_289 M233 rfl rfl (Nat.le_of_ble_eq_true rfl) (oX12_next eh31) (cX12_next X N (d + 2) v0 q29.2 h31 eh31) ?_
                    refine r_aload_n (dGet dX12_first (j := 103) rfl) nv0 rfl ?_
                    refine r_aload_n (dGet dX12_first (j := 104) rfl) nv0 rfl ?_
                    refine r_bipush (dGet dX12_first (j := 105) rfl) kB_91 ?_
                    obtain ⟨q32, eq32, hf⟩ := Option.bind_eq_some_iff.mp hf
                    refine r_virtual (dGet dX12_first (j := 106) rfl) L12_295 M247 rfl rfl (Nat.le_of_ble_eq_true rfl) (oX12_isSign eq32) (cX12_isSign X N (d + 4) v0 (91 : Int32) h31 q32 eq32) ?_
                    obtain ⟨q33, eq33, hf⟩ := Option.bind_eq_some_iff.mp hf
                    refine r_virtual (dGet dX12_first (j := 107) rfl) L12_339 M248 rfl rfl (Nat.le_of_ble_eq_true rfl) (oX12_opens eq33) (cX12_opens X N (d + 1) v0 q32.1 q32.2 q33 eq33) ?_
                    by_cases c34 : q33.1 = 0
                    · rw [if_pos c34] at hf
                      refine r_if_eq_t (dGet dX12_first (j := 108) rfl) rfl c34 ?_
                      refine r_iconst (dGet dX12_first (j := 112) rfl) kI_m1 ?_
                      refine Run.weak [(0, .ref v0)] (by simp) (by simp [pNd]) ?_
                      exact lX12_first_205 X N d rc hrc v0 (-1 : Int32) q33.2 q hf nv0
                    · rw [if_neg c34] at hf
                      refine r_if_eq_f (dGet dX12_first (j := 108) rfl) rfl c34 ?_
                      refine r_aload_n (dGet dX12_first (j := 109) rfl) nv0 rfl ?_
                      obtain ⟨_, ec35, hf⟩ := Option.bind_eq_some_iff.mp hf
                      obtain ⟨q36, eq36, hf⟩ := Option.bind_eq_some_iff.mp hf
                      refine r_virtual (dGet dX12_first (j := 110) rfl) L12_349 M257 rfl rfl (Nat.le_of_ble_eq_true rfl) (guard_of ec35) (rcI_calls hrc eq36) ?_
                      refine r_goto (dGet dX12_first (j := 111) rfl) rfl ?_
                      refine Run.weak [(0, .ref v0)] (by simp) (by simp [pNd]) ?_
                      exact lX12_first_205 X N d rc hrc v0 q36.1 q36.2 q hf nv0
                · rw [if_neg c21] at hf
                  refine r_icmp_ne_t (dGet dX12_first (j := 86) rfl) rfl c21 ?_
                  refine r_iload_n (dGet dX12_first (j := 124) rfl) rfl ?_
                  refine r_bipush (dGet dX12_first (j := 125) rfl) kB_15 ?_
                  by_cases c22 : t19 = (15 : Int32)
                  · rw [if_pos c22] at hf
                    refine r_icmp_ne_f (dGet dX12_first (j := 126) rfl) rfl c22 ?_
                    refine r_aload_n (dGet dX12_first (j := 127) rfl) nv0 rfl ?_
                    refine r_iconst (dGet dX12_first (j := 128) rfl) kI_1 ?_
                    refine r_iconst (dGet dX12_first (j := 129) rfl) kI_0 ?_
                    refine r_iconst (dGet dX12_first (j := 130) rfl) kI_0 ?_
                    refine r_iconst (dGet dX12_first (j := 131) rfl) kI_0 ?_
                    obtain ⟨q28, eq28, hf⟩ := Option.bind_eq_some_iff.mp hf
                    refine r_virtual (dGet dX12_first (j := 132) rfl) L12_308 M266 rfl rfl (Nat.le_of_ble_eq_true rfl) (oX12_node eq28) (cX12_node X N (d + 4) v0 (1 : Int32) (0 : Int32) (0 : Int32) (0 : Int32) h20 q28 eq28) ?_
                    refine r_goto (dGet dX12_first (j := 133) rfl) rfl ?_
                    have hq := Option.some.inj hf
                    subst hq
                    exact r_iret (dGet dX12_first (j := 165) rfl) rfl rfl
                  · rw [if_neg c22] at hf
                    refine r_icmp_ne_t (dGet dX12_first (j := 126) rfl) rfl c22 ?_
                    refine r_iload_n (dGet dX12_first (j := 134) rfl) rfl ?_
                    refine r_bipush (dGet dX12_first (j := 135) rfl) kB_18 ?_
                    by_cases c23 : t19 = (18 : Int32)
                    · rw [if_pos c23] at hf
                      refine r_icmp_ne_f (dGet dX12_first (j := 136) rfl) rfl c23 ?_
                      refine r_aload_n (dGet dX12_first (j := 137) rfl) nv0 rfl ?_
                      refine r_iconst (dGet dX12_first (j := 138) rfl) kI_2 ?_
                      refine r_iconst (dGet dX12_first (j := 139) rfl) kI_0 ?_
                      refine r_iconst (dGet dX12_first (j := 140) rfl) kI_0 ?_
                      refine r_iconst (dGet dX12_first (j := 141) rfl) kI_0 ?_
                      obtain ⟨q27, eq27, hf⟩ := Option.bind_eq_some_iff.mp hf
                      refine r_virtual (dGet dX12_first (j := 142) rfl) L12_308 M266 rfl rfl (Nat.le_of_ble_eq_true rfl) (oX12_node eq27) (cX12_node X N (d + 4) v0 (2 : Int32) (0 : Int32) (0 : Int32) (0 : Int32) h20 q27 eq27) ?_
                      refine r_goto (dGet dX12_first (j := 143) rfl) rfl ?_
                      have hq := Option.some.inj hf
                      subst hq
                      exact r_iret (dGet dX12_first (j := 165) rfl) rfl rfl
                    · rw [if_neg c23] at hf
                      refine r_icmp_ne_t (dGet dX12_first (j := 136) rfl) rfl c23 ?_
                      refine r_iload_n (dGet dX12_first (j := 144) rfl) rfl ?_
                      refine r_bipush (dGet dX12_first (j := 145) rfl) kB_19 ?_
                      by_cases c24 : t19 = (19 : Int32)
                      · rw [if_pos c24] at hf
                        refine r_icmp_ne_f (dGet dX12_first (j := 146) rfl) rfl c24 ?_
                        refine r_aload_n (dGet dX12_first (j := 147) rfl) nv0 rfl ?_
                        refine r_iconst (dGet dX12_first (j := 148) rfl) kI_3 ?_
                        refine r_iconst (dGet dX12_first (j := 149) rfl) kI_0 ?_
                        refine r_iconst (dGet dX12_first (j := 150) rfl) kI_0 ?_
                        refine r_iconst (dGet dX12_first (j := 151) rfl) kI_0 ?_
                        obtain ⟨q26, eq26, hf⟩ := Option.bind_eq_some_iff.mp hf
                        refine r_virtual (dGet dX12_first (j := 152) rfl) L12_308 M266 rfl rfl (Nat.le_of_ble_eq_true rfl) (oX12_node eq26) (cX12_node X N (d + 4) v0 (3 : Int32) (0 : Int32) (0 : Int32) (0 : Int32) h20 q26 eq26) ?_
                        refine r_goto (dGet dX12_first (j := 153) rfl) rfl ?_
                        have hq := Option.some.inj hf
                        subst hq
                        exact r_iret (dGet dX12_first (j := 165) rfl) rfl rfl
                      · rw [if_neg c24] at hf
                        refine r_icmp_ne_t (dGet dX12_first (j := 146) rfl) rfl c24 ?_
                        refine r_aload_n (dGet dX12_first (j := 154) rfl) nv0 rfl ?_
                        refine r_bipush (dGet dX12_first (j := 155) rfl) kB_21 ?_
                        refine r_iconst (dGet dX12_first (j := 156) rfl) kI_0 ?_
                        refine r_iconst (dGet dX12_first (j := 157) rfl) kI_0 ?_
                        refine r_iload_n (dGet dX12_first (j := 158) rfl) rfl ?_
                        refine r_bipush (dGet dX12_first (j := 159) rfl) kB_16 ?_
                        by_cases c25 : t19 = (16 : Int32)
                        · rw [if_pos c25] at hf
                          refine r_icmp_ne_f (dGet dX12_first (j := 160) rfl) rfl c25 ?_
                          refine r_iconst (dGet dX12_first (j := 161) rfl) kI_1 ?_
                          refine r_goto (dGet dX12_first (j := 162) rfl) rfl ?_
                          refine Run.weak [] (by simp) (by simp [pNd]) ?_
                          exact lX12_first_289 X N d rc hrc v0 (21 : Int32) (0 : Int32) (0 : Int32) (1 : Int32) h20 q hf nv0
                        · rw [if_neg c25] at hf
                          refine r_icmp_ne_t (dGet dX12_first (j := 160) rfl) rfl c25 ?_
                          refine r_iconst (dGet dX12_first (j := 163) rfl) kI_0 ?_
                          refine Run.weak [] (by simp) (by simp [pNd]) ?_
                          exact lX12_first_289 X N d rc hrc v0 (21 : Int32) (0 : Int32) (0 : Int32) (0 : Int32) h20 q hf nv0
            · rw [if_neg c15] at hf
              refine r_icmp_ne_t (dGet dX12_first (j := 66) rfl) rfl c15 ?_
              exact lX12_first_134 X N d rc hrc v0 q12.2 q hf nv0
          · rw [if_neg c13] at hf
            refine r_if_eq_f (dGet dX12_first (j := 48) rfl) rfl c13 ?_
            refine r_aload_n (dGet dX12_first (j := 49) rfl) nv0 rfl ?_
            refine r_iconst (dGet dX12_first (j := 50) rfl) kI_1 ?_
            obtain ⟨q39, eq39, hf⟩ := Option.bind_eq_some_iff.mp hf
            refine r_virtual (dGet dX12_first (j := 51) rfl) L12_339 M248 rfl rfl (Nat.le_of_ble_eq_true rfl) (oX12_opens eq39) (cX12_opens X N (d + 1) v0 (1 : Int32) q12.2 q39 eq39) ?_
            by_cases c40 : q39.1 = 0
            · rw [if_pos c40] at hf
              refine r_if_ne_f (dGet dX12_first (j := 52) rfl) rfl c40 ?_
              refine r_iconst (dGet dX12_first (j := 53) rfl) kI_m1 ?_
              have hq := Option.some.inj hf
              subst hq
              exact r_iret (dGet dX12_first (j := 54) rfl) rfl rfl
            · rw [if_neg c40] at hf
              refine r_if_ne_t (dGet dX12_first (j := 52) rfl) rfl c40 ?_
              refine r_aload_n (dGet dX12_first (j := 55) rfl) nv0 rfl ?_
              obtain ⟨_, ec41, hf⟩ := Option.bind_eq_some_iff.mp hf
              obtain ⟨q42, eq42, hf⟩ := Option.bind_eq_some_iff.mp hf
              refine r_virtual (dGet dX12_first (j := 56) rfl) L12_349 M257 rfl rfl (Nat.le_of_ble_eq_true rfl) (guard_of ec41) (rcI_calls hrc eq42) ?_
              refine r_istore_n (lv' := [(1, .int q42.1), (0, .ref v0)]) (dGet dX12_first (j := 57) rfl) (by decide) rfl ?_
              refine r_aload_n (dGet dX12_first (j := 58) rfl) nv0 rfl ?_
              refine r_bipush (dGet dX12_first (j := 59) rfl) kB_41 ?_
              obtain ⟨h43, eh43, hf⟩ := Option.bind_eq_some_iff.mp hf
              refine r_virtual (dGet dX12_first (j := 60) rfl) L12_352 M252 rfl rfl (Nat.le_of_ble_eq_true rfl) (oX12_closes eh43) (cX12_closes X N (d + 0) v0 (41 : Int32) q42.2 h43 eh43) ?_
              refine r_iload_n (dGet dX12_first (j := 61) rfl) rfl ?_
              have hq := Option.some.inj hf
              subst hq
              exact r_iret (dGet dX12_first (j := 62) rfl) rfl rfl
    · rw [if_neg c7] at hf
      refine r_if_lt_f (dGet dX12_first (j := 2) rfl) rfl c7 ?_
      refine r_iconst (dGet dX12_first (j := 3) rfl) kI_m1 ?_
      have hq := Option.some.inj hf
      subst hq
      exact r_iret (dGet dX12_first (j := 4) rfl) rfl rfl
  · rw [if_neg hc] at hf; cases hf
def eX12_called : List (Nat × Instr × Nat) := [(0, .aload_n 0, 1), (1, .iconst 1, 1), (2, .invokevirtual 339, 3), (5, .ifCond .ne 5, 3), (8, .iconst (-1), 1), (9, .ireturn, 1), (10, .aload_n 0, 1), (11, .getfield 356, 3), (14, .istore 4, 2), (16, .aload_n 0, 1), (17, .bipush 41, 2), (19, .invokevirtual 295, 3), (22, .ifCond .ne 7, 3), (25, .iconst 1, 1), (26, .goto 4, 3), (29, .iconst 0, 1), (30, .istore 5, 2), (32, .iload 5, 2), (34, .ifCond .eq 57, 3), (37, .aload_n 0, 1), (38, .getfield 283, 3), (41, .ifCond .ge 50, 3), (44, .aload_n 0, 1), (45, .invokevirtual 349, 3), (48, .istore 6, 2), (50, .aload_n 0, 1), (51, .getfield 43, 3), (54, .aload_n 0, 1), (55, .getfield 356, 3), (58, .iload 6, 2), (60, .iastore, 1), (61, .aload_n 0, 1), (62, .dup, 1), (63, .getfield 356, 3), (66, .iconst 1, 1), (67, .iadd, 1), (68, .putfield 356, 3), (71, .aload_n 0, 1), (72, .bipush 44, 2), (74, .invokevirtual 295, 3), (77, .istore 5, 2), (79, .iload 5, 2), (81, .ifCond .eq 7, 3), (84, .aload_n 0, 1), (85, .invokevirtual 289, 3), (88, .goto (-56), 3), (91, .aload_n 0, 1), (92, .bipush 41, 2), (94, .invokevirtual 352, 3), (97, .aload_n 0, 1), (98, .getfield 359, 3), (101, .istore 6, 2), (103, .iload 4, 2), (105, .istore 7, 2), (107, .iload 7, 2), (109, .aload_n 0, 1), (110, .getfield 356, 3), (113, .if_icmp .ge 35, 3), (116, .aload_n 0, 1), (117, .getfield 40, 3), (120, .aload_n 0, 1), (121, .getfield 359, 3), (124, .aload_n 0, 1), (125, .getfield 43, 3), (128, .iload 7, 2), (130, .iaload, 1), (131, .iastore, 1), (132, .aload_n 0, 1), (133, .dup, 1), (134, .getfield 359, 3), (137, .iconst 1, 1), (138, .iadd, 1), (139, .putfield 359, 3), (142, .iinc 7 1, 3), (145, .goto (-38), 3), (148, .aload_n 0, 1), (149, .getfield 356, 3), (152, .iload 4, 2), (154, .isub, 1), (155, .istore 7, 2), (157, .aload_n 0, 1), (158, .iload 4, 2), (160, .putfield 356, 3), (163, .aload_n 0, 1), (164, .iload_n 1, 1), (165, .iload_n 2, 1), (166, .iload 6, 2), (168, .iload_n 3, 1), (169, .invokevirtual 308, 3), (172, .istore 8, 2), (174, .aload_n 0, 1), (175, .getfield 37, 3), (178, .iload 8, 2), (180, .iload 7, 2), (182, .iastore, 1), (183, .iload 8, 2), (185, .ireturn, 1)]
theorem dX12_called : dChk (pCd 9011) eX12_called = true := by decide +kernel
def fX12_called_107 (N : Nat) (rc : Nat → List Value → pH → Option (Option Value × pH)) : Nat → Nat → Int32 → Int32 → Int32 → Int32 → Int32 → Int32 → pH → Option (Int32 × pH)
  | 0, _, _, _, _, _, _, _, _ => none
  | n + 1, v0, v1, v2, v3, v4, v6, v7, h => (getI h v0 12 23).bind fun t1 =>
  if t1 ≤ v7 then (
  (getI h v0 12 23).bind fun t3 =>
  (putI h v0 12 23 v4).bind fun h4 =>
  (fX12_node N v0 v1 v2 v6 v3 h4).bind fun q5 =>
  (getR q5.2 v0 12 20).bind fun t6 =>
  (stI q5.2 t6 q5.1 (t3 - v4)).bind fun h7 =>
  some (q5.1, h7)) else (
  (getR h v0 12 22).bind fun t8 =>
  (getI h v0 12 21).bind fun t9 =>
  (getR h v0 12 24).bind fun t10 =>
  (ldI h t10 v7).bind fun t11 =>
  (stI h t8 t9 t11).bind fun h12 =>
  (getI h12 v0 12 21).bind fun t13 =>
  (putI h12 v0 12 21 (t13 + (1 : Int32))).bind fun h14 =>
  fX12_called_107 N rc n v0 v1 v2 v3 v4 v6 (v7 + (1 : Int32)) h14)
theorem lX12_called_107 (X : pX) (N d : Nat) (rc : Nat → List Value → pH → Option (Option Value × pH)) (hrc : ∀ mn as h q, rc mn as h = some q → Calls X (d + 4) mn as h (q.1, q.2, 0, 0))  : ∀ (n : Nat) (v0 : Nat) (v1 : Int32) (v2 : Int32) (v3 : Int32) (v4 : Int32) (v6 : Int32) (v7 : Int32) (h : pH) (q : Int32 × pH), fX12_called_107 N rc n v0 v1 v2 v3 v4 v6 v7 h = some q → ¬ v0 = 4 → Run X (d + 5) 12 false (pCd 9011) 9 (some .int) 107 [(0, .ref v0), (1, .int v1), (2, .int v2), (3, .int v3), (4, .int v4), (6, .int v6), (7, .int v7)] [] h 0 0 (some (.int q.1), q.2, 0, 0) := by
  intro n
  induction n with
  | zero => intro v0 v1 v2 v3 v4 v6 v7 h q hf; cases hf
  | succ n ih =>
    intro v0 v1 v2 v3 v4 v6 v7 h q hf nv0
    unfold fX12_called_107 at hf
    refine r_iload (dGet dX12_called (j := 54) rfl) rfl ?_
    refine r_aload_n (dGet dX12_called (j := 55) rfl) nv0 rfl ?_
    obtain ⟨t1, et1, hf⟩ := Option.bind_eq_some_iff.mp hf
    refine r_getI (dGet dX12_called (j := 56) rfl) F12_356 et1 ?_
    by_cases c2 : t1 ≤ v7
    · rw [if_pos c2] at hf
      refine r_icmp_ge_t (dGet dX12_called (j := 57) rfl) rfl c2 ?_
      refine r_aload_n (dGet dX12_called (j := 75) rfl) nv0 rfl ?_
      obtain ⟨t3, et3, hf⟩ := Option.bind_eq_some_iff.mp hf
      refine r_getI (dGet dX12_called (j := 76) rfl) F12_356 et3 ?_
      refine r_iload (dGet dX12_called (j := 77) rfl) rfl ?_
      refine r_isub (dGet dX12_called (j := 78) rfl) ?_
      refine r_istore (lv' := [(7, .int (t3 - v4)), (0, .ref v0), (1, .int v1), (2, .int v2), (3, .int v3), (4, .int v4), (6, .int v6)]) (dGet dX12_called (j := 79) rfl) (by decide) rfl ?_
      refine r_aload_n (dGet dX12_called (j := 80) rfl) nv0 rfl ?_
      refine r_iload (dGet dX12_called (j := 81) rfl) rfl ?_
      obtain ⟨h4, eh4, hf⟩ := Option.bind_eq_some_iff.mp hf
      refine r_putI (dGet dX12_called (j := 82) rfl) F12_356 rfl rfl eh4 ?_
      refine r_aload_n (dGet dX12_called (j := 83) rfl) nv0 rfl ?_
      refine r_iload_n (dGet dX12_called (j := 84) rfl) rfl ?_
      refine r_iload_n (dGet dX12_called (j := 85) rfl) rfl ?_
      refine r_iload (dGet dX12_called (j := 86) rfl) rfl ?_
      refine r_iload_n (dGet dX12_called (j := 87) rfl) rfl ?_
      obtain ⟨q5, eq5, hf⟩ := Option.bind_eq_some_iff.mp hf
      refine r_virtual (dGet dX12_called (j := 88) rfl) L12_308 M266 rfl rfl (Nat.le_of_ble_eq_true rfl) (oX12_node eq5) (cX12_node X N (d + 4) v0 v1 v2 v6 v3 h4 q5 eq5) ?_
      refine r_istore (lv' := [(8, .int q5.1), (7, .int (t3 - v4)), (0, .ref v0), (1, .int v1), (2, .int v2), (3, .int v3), (4, .int v4), (6, .int v6)]) (dGet dX12_called (j := 89) rfl) (by decide) rfl ?_
      refine r_aload_n (dGet dX12_called (j := 90) rfl) nv0 rfl ?_
      obtain ⟨t6, et6, hf⟩ := Option.bind_eq_some_iff.mp hf
      refine r_getR (dGet dX12_called (j := 91) rfl) F12_37 et6 ?_
      refine r_iload (dGet dX12_called (j := 92) rfl) rfl ?_
      refine r_iload (dGet dX12_called (j := 93) rfl) rfl ?_
      obtain ⟨h7, eh7, hf⟩ := Option.bind_eq_some_iff.mp hf
      refine r_iast (dGet dX12_called (j := 94) rfl) eh7 ?_
      refine r_iload (dGet dX12_called (j := 95) rfl) rfl ?_
      have hq := Option.some.inj hf
      subst hq
      exact r_iret (dGet dX12_called (j := 96) rfl) rfl rfl
    · rw [if_neg c2] at hf
      refine r_icmp_ge_f (dGet dX12_called (j := 57) rfl) rfl c2 ?_
      refine r_aload_n (dGet dX12_called (j := 58) rfl) nv0 rfl ?_
      obtain ⟨t8, et8, hf⟩ := Option.bind_eq_some_iff.mp hf
      refine r_getR (dGet dX12_called (j := 59) rfl) F12_40 et8 ?_
      refine r_aload_n (dGet dX12_called (j := 60) rfl) nv0 rfl ?_
      obtain ⟨t9, et9, hf⟩ := Option.bind_eq_some_iff.mp hf
      refine r_getI (dGet dX12_called (j := 61) rfl) F12_359 et9 ?_
      refine r_aload_n (dGet dX12_called (j := 62) rfl) nv0 rfl ?_
      obtain ⟨t10, et10, hf⟩ := Option.bind_eq_some_iff.mp hf
      refine r_getR (dGet dX12_called (j := 63) rfl) F12_43 et10 ?_
      refine r_iload (dGet dX12_called (j := 64) rfl) rfl ?_
      obtain ⟨t11, et11, hf⟩ := Option.bind_eq_some_iff.mp hf
      refine r_iald (dGet dX12_called (j := 65) rfl) et11 ?_
      obtain ⟨h12, eh12, hf⟩ := Option.bind_eq_some_iff.mp hf
      refine r_iast (dGet dX12_called (j := 66) rfl) eh12 ?_
      refine r_aload_n (dGet dX12_called (j := 67) rfl) nv0 rfl ?_
      refine r_dup (dGet dX12_called (j := 68) rfl) rfl ?_
      obtain ⟨t13, et13, hf⟩ := Option.bind_eq_some_iff.mp hf
      refine r_getI (dGet dX12_called (j := 69) rfl) F12_359 et13 ?_
      refine r_iconst (dGet dX12_called (j := 70) rfl) kI_1 ?_
      refine r_iadd (dGet dX12_called (j := 71) rfl) ?_
      obtain ⟨h14, eh14, hf⟩ := Option.bind_eq_some_iff.mp hf
      refine r_putI (dGet dX12_called (j := 72) rfl) F12_359 rfl rfl eh14 ?_
      refine r_iinc (lv' := [(7, .int (v7 + (1 : Int32))), (0, .ref v0), (1, .int v1), (2, .int v2), (3, .int v3), (4, .int v4), (6, .int v6)]) (dGet dX12_called (j := 73) rfl) rfl (by decide) kI_1 rfl ?_
      refine r_goto (dGet dX12_called (j := 74) rfl) rfl ?_
      refine Run.weak [(0, .ref v0), (1, .int v1), (2, .int v2), (3, .int v3), (4, .int v4), (6, .int v6), (7, .int (v7 + (1 : Int32)))] (by simp) (by simp [pNd]) ?_
      exact ih v0 v1 v2 v3 v4 v6 (v7 + (1 : Int32)) h14 q hf nv0
def fX12_called_91 (N : Nat) (rc : Nat → List Value → pH → Option (Option Value × pH)) (v0 : Nat) (v1 : Int32) (v2 : Int32) (v3 : Int32) (v4 : Int32) (h : pH) : Option (Int32 × pH) :=
  (fX12_closes N v0 (41 : Int32) h).bind fun h15 =>
  (getI h15 v0 12 21).bind fun t16 =>
  fX12_called_107 N rc N v0 v1 v2 v3 v4 t16 v4 h15
theorem lX12_called_91 (X : pX) (N d : Nat) (rc : Nat → List Value → pH → Option (Option Value × pH)) (hrc : ∀ mn as h q, rc mn as h = some q → Calls X (d + 4) mn as h (q.1, q.2, 0, 0))  (v0 : Nat) (v1 : Int32) (v2 : Int32) (v3 : Int32) (v4 : Int32) (h : pH) (q : Int32 × pH) (hf : fX12_called_91 N rc v0 v1 v2 v3 v4 h = some q) (nv0 : ¬ v0 = 4) : Run X (d + 5) 12 false (pCd 9011) 9 (some .int) 91 [(0, .ref v0), (1, .int v1), (2, .int v2), (3, .int v3), (4, .int v4)] [] h 0 0 (some (.int q.1), q.2, 0, 0) := by
  unfold fX12_called_91 at hf
  refine r_aload_n (dGet dX12_called (j := 46) rfl) nv0 rfl ?_
  refine r_bipush (dGet dX12_called (j := 47) rfl) kB_41 ?_
  obtain ⟨h15, eh15, hf⟩ := Option.bind_eq_some_iff.mp hf
  refine r_virtual (dGet dX12_called (j := 48) rfl) L12_352 M252 rfl rfl (Nat.le_of_ble_eq_true rfl) (oX12_closes eh15) (cX12_closes X N (d + 0) v0 (41 : Int32) h h15 eh15) ?_
  refine r_aload_n (dGet dX12_called (j := 49) rfl) nv0 rfl ?_
  obtain ⟨t16, et16, hf⟩ := Option.bind_eq_some_iff.mp hf
  refine r_getI (dGet dX12_called (j := 50) rfl) F12_359 et16 ?_
  refine r_istore (lv' := [(6, .int t16), (0, .ref v0), (1, .int v1), (2, .int v2), (3, .int v3), (4, .int v4)]) (dGet dX12_called (j := 51) rfl) (by decide) rfl ?_
  refine r_iload (dGet dX12_called (j := 52) rfl) rfl ?_
  refine r_istore (lv' := [(7, .int v4), (6, .int t16), (0, .ref v0), (1, .int v1), (2, .int v2), (3, .int v3), (4, .int v4)]) (dGet dX12_called (j := 53) rfl) (by decide) rfl ?_
  refine Run.weak [(0, .ref v0), (1, .int v1), (2, .int v2), (3, .int v3), (4, .int v4), (6, .int t16), (7, .int v4)] (by simp) (by simp [pNd]) ?_
  exact lX12_called_107 X N d rc hrc N v0 v1 v2 v3 v4 t16 v4 h15 q hf nv0
def fX12_called_88 (N : Nat) (rc : Nat → List Value → pH → Option (Option Value × pH)) (k32 : Nat → Int32 → Int32 → Int32 → Int32 → Int32 → pH → Option (Int32 × pH)) (v0 : Nat) (v1 : Int32) (v2 : Int32) (v3 : Int32) (v4 : Int32) (v5 : Int32) (h : pH) : Option (Int32 × pH) :=
  k32 v0 v1 v2 v3 v4 v5 h
theorem lX12_called_88 (X : pX) (N d : Nat) (rc : Nat → List Value → pH → Option (Option Value × pH)) (hrc : ∀ mn as h q, rc mn as h = some q → Calls X (d + 4) mn as h (q.1, q.2, 0, 0))  (k32 : Nat → Int32 → Int32 → Int32 → Int32 → Int32 → pH → Option (Int32 × pH)) (K32 : ∀ (w0 : Nat) (w1 : Int32) (w2 : Int32) (w3 : Int32) (w4 : Int32) (w5 : Int32) (h : pH) (q : Int32 × pH), k32 w0 w1 w2 w3 w4 w5 h = some q → ¬ w0 = 4 → Run X (d + 5) 12 false (pCd 9011) 9 (some .int) 32 [(0, .ref w0), (1, .int w1), (2, .int w2), (3, .int w3), (4, .int w4), (5, .int w5)] [] h 0 0 (some (.int q.1), q.2, 0, 0)) (v0 : Nat) (v1 : Int32) (v2 : Int32) (v3 : Int32) (v4 : Int32) (v5 : Int32) (h : pH) (q : Int32 × pH) (hf : fX12_called_88 N rc k32 v0 v1 v2 v3 v4 v5 h = some q) (nv0 : ¬ v0 = 4) : Run X (d + 5) 12 false (pCd 9011) 9 (some .int) 88 [(0, .ref v0), (1, .int v1), (2, .int v2), (3, .int v3), (4, .int v4), (5, .int v5)] [] h 0 0 (some (.int q.1), q.2, 0, 0) := by
  unfold fX12_called_88 at hf
  refine r_goto (dGet dX12_called (j := 45) rfl) rfl ?_
  exact K32 v0 v1 v2 v3 v4 v5 h q hf nv0
def fX12_called_32 (N : Nat) (rc : Nat → List Value → pH → Option (Option Value × pH)) : Nat → Nat → Int32 → Int32 → Int32 → Int32 → Int32 → pH → Option (Int32 × pH)
  | 0, _, _, _, _, _, _, _ => none
  | n + 1, v0, v1, v2, v3, v4, v5, h => if v5 = 0 then (
  fX12_called_91 N rc v0 v1 v2 v3 v4 h) else (
  (getI h v0 12 9).bind fun t18 =>
  if 0 ≤ t18 then (
  fX12_called_91 N rc v0 v1 v2 v3 v4 h) else (
  (if isO h v0 12 = true then some () else none).bind fun _ =>
  (rcI rc 257 [.ref v0] h).bind fun q21 =>
  (getR q21.2 v0 12 24).bind fun t22 =>
  (getI q21.2 v0 12 23).bind fun t23 =>
  (stI q21.2 t22 t23 q21.1).bind fun h24 =>
  (getI h24 v0 12 23).bind fun t25 =>
  (putI h24 v0 12 23 (t25 + (1 : Int32))).bind fun h26 =>
  (fX12_isSign N v0 (44 : Int32) h26).bind fun q27 =>
  if q27.1 = 0 then (
  fX12_called_88 N rc (fX12_called_32 N rc n) v0 v1 v2 v3 v4 q27.1 q27.2) else (
  (fX12_next N v0 q27.2).bind fun h29 =>
  fX12_called_88 N rc (fX12_called_32 N rc n) v0 v1 v2 v3 v4 q27.1 h29)))
theorem lX12_called_32 (X : pX) (N d : Nat) (rc : Nat → List Value → pH → Option (Option Value × pH)) (hrc : ∀ mn as h q, rc mn as h = some q → Calls X (d + 4) mn as h (q.1, q.2, 0, 0))  : ∀ (n : Nat) (v0 : Nat) (v1 : Int32) (v2 : Int32) (v3 : Int32) (v4 : Int32) (v5 : Int32) (h : pH) (q : Int32 × pH), fX12_called_32 N rc n v0 v1 v2 v3 v4 v5 h = some q → ¬ v0 = 4 → Run X (d + 5) 12 false (pCd 9011) 9 (some .int) 32 [(0, .ref v0), (1, .int v1), (2, .int v2), (3, .int v3), (4, .int v4), (5, .int v5)] [] h 0 0 (some (.int q.1), q.2, 0, 0) := by
  intro n
  induction n with
  | zero => intro v0 v1 v2 v3 v4 v5 h q hf; cases hf
  | succ n ih =>
    intro v0 v1 v2 v3 v4 v5 h q hf nv0
    unfold fX12_called_32 at hf
    refine r_iload (dGet dX12_called (j := 17) rfl) rfl ?_
    by_cases c17 : v5 = 0
    · rw [if_pos c17] at hf
      refine r_if_eq_t (dGet dX12_called (j := 18) rfl) rfl c17 ?_
      refine Run.weak [(0, .ref v0), (1, .int v1), (2, .int v2), (3, .int v3), (4, .int v4)] (by simp) (by simp [pNd]) ?_
      exact lX12_called_91 X N d rc hrc v0 v1 v2 v3 v4 h q hf nv0
    · rw [if_neg c17] at hf
      refine r_if_eq_f (dGet dX12_called (j := 18) rfl) rfl c17 ?_
      refine r_aload_n (dGet dX12_called (j := 19) rfl) nv0 rfl ?_
      obtain ⟨t18, et18, hf⟩ := Option.bind_eq_some_iff.mp hf
      refine r_getI (dGet dX12_called (j := 20) rfl) F12_283 et18 ?_
      by_cases c19 : 0 ≤ t18
      · rw [if_pos c19] at hf
        refine r_if_ge_t (dGet dX12_called (j := 21) rfl) rfl c19 ?_
        refine Run.weak [(0, .ref v0), (1, .int v1), (2, .int v2), (3, .int v3), (4, .int v4)] (by simp) (by simp [pNd]) ?_
        exact lX12_called_91 X N d rc hrc v0 v1 v2 v3 v4 h q hf nv0
      · rw [if_neg c19] at hf
        refine r_if_ge_f (dGet dX12_called (j := 21) rfl) rfl c19 ?_
        refine r_aload_n (dGet dX12_called (j := 22) rfl) nv0 rfl ?_
        obtain ⟨_, ec20, hf⟩ := Option.bind_eq_some_iff.mp hf
        obtain ⟨q21, eq21, hf⟩ := Option.bind_eq_some_iff.mp hf
        refine r_virtual (dGet dX12_called (j := 23) rfl) L12_349 M257 rfl rfl (Nat.le_of_ble_eq_true rfl) (guard_of ec20) (rcI_calls hrc eq21) ?_
        refine r_istore (lv' := [(6, .int q21.1), (0, .ref v0), (1, .int v1), (2, .int v2), (3, .int v3), (4, .int v4), (5, .int v5)]) (dGet dX12_called (j := 24) rfl) (by decide) rfl ?_
        refine r_aload_n (dGet dX12_called (j := 25) rfl) nv0 rfl ?_
        obtain ⟨t22, et22, hf⟩ := Option.bind_eq_some_iff.mp hf
        refine r_getR (dGet dX12_called (j := 26) rfl) F12_43 et22 ?_
        refine r_aload_n (dGet dX12_called (j := 27) rfl) nv0 rfl ?_
        obtain ⟨t23, et23, hf⟩ := Option.bind_eq_some_iff.mp hf
        refine r_getI (dGet dX12_called (j := 28) rfl) F12_356 et23 ?_
        refine r_iload (dGet dX12_called (j := 29) rfl) rfl ?_
        obtain ⟨h24, eh24, hf⟩ := Option.bind_eq_some_iff.mp hf
        refine r_iast (dGet dX12_called (j := 30) rfl) eh24 ?_
        refine r_aload_n (dGet dX12_called (j := 31) rfl) nv0 rfl ?_
        refine r_dup (dGet dX12_called (j := 32) rfl) rfl ?_
        obtain ⟨t25, et25, hf⟩ := Option.bind_eq_some_iff.mp hf
        refine r_getI (dGet dX12_called (j := 33) rfl) F12_356 et25 ?_
        refine r_iconst (dGet dX12_called (j := 34) rfl) kI_1 ?_
        refine r_iadd (dGet dX12_called (j := 35) rfl) ?_
        obtain ⟨h26, eh26, hf⟩ := Option.bind_eq_some_iff.mp hf
        refine r_putI (dGet dX12_called (j := 36) rfl) F12_356 rfl rfl eh26 ?_
        refine r_aload_n (dGet dX12_called (j := 37) rfl) nv0 rfl ?_
        refine r_bipush (dGet dX12_called (j := 38) rfl) kB_44 ?_
        obtain ⟨q27, eq27, hf⟩ := Option.bind_eq_some_iff.mp hf
        refine r_virtual (dGet dX12_called (j := 39) rfl) L12_295 M247 rfl rfl (Nat.le_of_ble_eq_true rfl) (oX12_isSign eq27) (cX12_isSign X N (d + 4) v0 (44 : Int32) h26 q27 eq27) ?_
        refine r_istore (lv' := [(5, .int q27.1), (6, .int q21.1), (0, .ref v0), (1, .int v1), (2, .int v2), (3, .int v3), (4, .int v4)]) (dGet dX12_called (j := 40) rfl) (by decide) rfl ?_
        refine r_iload (dGet dX12_called (j := 41) rfl) rfl ?_
        by_cases c28 : q27.1 = 0
        · rw [if_pos c28] at hf
          refine r_if_eq_t (dGet dX12_called (j := 42) rfl) rfl c28 ?_
          refine Run.weak [(0, .ref v0), (1, .int v1), (2, .int v2), (3, .int v3), (4, .int v4), (5, .int q27.1)] (by simp) (by simp [pNd]) ?_
          exact lX12_called_88 X N d rc hrc (fX12_called_32 N rc n) ih v0 v1 v2 v3 v4 q27.1 q27.2 q hf nv0
        · rw [if_neg c28] at hf
          refine r_if_eq_f (dGet dX12_called (j := 42) rfl) rfl c28 ?_
          refine r_aload_n (dGet dX12_called (j := 43) rfl) nv0 rfl ?_
          obtain ⟨h29, eh29, hf⟩ := Option.bind_eq_some_iff.mp hf
          refine r_virtual (dGet dX12_called (j := 44) rfl) L12_289 M233 rfl rfl (Nat.le_of_ble_eq_true rfl) (oX12_next eh29) (cX12_next X N (d + 2) v0 q27.2 h29 eh29) ?_
          refine Run.weak [(0, .ref v0), (1, .int v1), (2, .int v2), (3, .int v3), (4, .int v4), (5, .int q27.1)] (by simp) (by simp [pNd]) ?_
          exact lX12_called_88 X N d rc hrc (fX12_called_32 N rc n) ih v0 v1 v2 v3 v4 q27.1 h29 q hf nv0
def fX12_called_30 (N : Nat) (rc : Nat → List Value → pH → Option (Option Value × pH)) (v0 : Nat) (v1 : Int32) (v2 : Int32) (v3 : Int32) (v4 : Int32) (s0 : Int32) (h : pH) : Option (Int32 × pH) :=
  fX12_called_32 N rc N v0 v1 v2 v3 v4 s0 h
theorem lX12_called_30 (X : pX) (N d : Nat) (rc : Nat → List Value → pH → Option (Option Value × pH)) (hrc : ∀ mn as h q, rc mn as h = some q → Calls X (d + 4) mn as h (q.1, q.2, 0, 0))  (v0 : Nat) (v1 : Int32) (v2 : Int32) (v3 : Int32) (v4 : Int32) (s0 : Int32) (h : pH) (q : Int32 × pH) (hf : fX12_called_30 N rc v0 v1 v2 v3 v4 s0 h = some q) (nv0 : ¬ v0 = 4) : Run X (d + 5) 12 false (pCd 9011) 9 (some .int) 30 [(0, .ref v0), (1, .int v1), (2, .int v2), (3, .int v3), (4, .int v4)] [.int s0] h 0 0 (some (.int q.1), q.2, 0, 0) := by
  unfold fX12_called_30 at hf
  refine r_istore (lv' := [(5, .int s0), (0, .ref v0), (1, .int v1), (2, .int v2), (3, .int v3), (4, .int v4)]) (dGet dX12_called (j := 16) rfl) (by decide) rfl ?_
  refine Run.weak [(0, .ref v0), (1, .int v1), (2, .int v2), (3, .int v3), (4, .int v4), (5, .int s0)] (by simp) (by simp [pNd]) ?_
  exact lX12_called_32 X N d rc hrc N v0 v1 v2 v3 v4 s0 h q hf nv0
def fX12_called (N : Nat) (rc : Nat → List Value → pH → Option (Option Value × pH)) (v0 : Nat) (v1 : Int32) (v2 : Int32) (v3 : Int32) (h : pH) : Option (Int32 × pH) := if isO h v0 12 = true then (
  (fX12_opens N v0 (1 : Int32) h).bind fun q30 =>
  if q30.1 = 0 then (
  some ((-1 : Int32), q30.2)) else (
  (getI q30.2 v0 12 23).bind fun t32 =>
  (fX12_isSign N v0 (41 : Int32) q30.2).bind fun q33 =>
  if q33.1 = 0 then (
  fX12_called_30 N rc v0 v1 v2 v3 t32 (1 : Int32) q33.2) else (
  fX12_called_30 N rc v0 v1 v2 v3 t32 (0 : Int32) q33.2))) else none
theorem oX12_called {N : Nat} {rc : Nat → List Value → pH → Option (Option Value × pH)} {v0 : Nat} {v1 : Int32} {v2 : Int32} {v3 : Int32} {h : pH} {q : Int32 × pH} (hf : fX12_called N rc v0 v1 v2 v3 h = some q) : isO h v0 12 = true := by
  unfold fX12_called at hf
  by_cases hc : isO h v0 12 = true
  · exact hc
  · rw [if_neg hc] at hf; cases hf
theorem cX12_called (X : pX) (N d : Nat) (rc : Nat → List Value → pH → Option (Option Value × pH)) (hrc : ∀ mn as h q, rc mn as h = some q → Calls X (d + 4) mn as h (q.1, q.2, 0, 0)) (v0 : Nat) (v1 : Int32) (v2 : Int32) (v3 : Int32) (h : pH) (q : Int32 × pH) (hf : fX12_called N rc v0 v1 v2 v3 h = some q) : Calls X (d + 5) 267 [.ref v0, .int v1, .int v2, .int v3] h (some (.int q.1), q.2, 0, 0) := by
  refine Calls.of M267 (Nat.le_of_ble_eq_true rfl) ?_
  show Run X (d + 5) 12 false (pCd 9011) 9 (some .int) 0 [(0, .ref v0), (1, .int v1), (2, .int v2), (3, .int v3)] [] h 0 0 (some (.int q.1), q.2, 0, 0)
  unfold fX12_called at hf
  by_cases hc : isO h v0 12 = true
  · rw [if_pos hc] at hf
    have nv0 : ¬ v0 = 4 := isO_ne hc
    refine r_aload_n (dGet dX12_called (j := 0) rfl) nv0 rfl ?_
    refine r_iconst (dGet dX12_called (j := 1) rfl) kI_1 ?_
    obtain ⟨q30, eq30, hf⟩ := Option.bind_eq_some_iff.mp hf
    refine r_virtual (dGet dX12_called (j := 2) rfl) L12_339 M248 rfl rfl (Nat.le_of_ble_eq_true rfl) (oX12_opens eq30) (cX12_opens X N (d + 1) v0 (1 : Int32) h q30 eq30) ?_
    by_cases c31 : q30.1 = 0
    · rw [if_pos c31] at hf
      refine r_if_ne_f (dGet dX12_called (j := 3) rfl) rfl c31 ?_
      refine r_iconst (dGet dX12_called (j := 4) rfl) kI_m1 ?_
      have hq := Option.some.inj hf
      subst hq
      exact r_iret (dGet dX12_called (j := 5) rfl) rfl rfl
    · rw [if_neg c31] at hf
      refine r_if_ne_t (dGet dX12_called (j := 3) rfl) rfl c31 ?_
      refine r_aload_n (dGet dX12_called (j := 6) rfl) nv0 rfl ?_
      obtain ⟨t32, et32, hf⟩ := Option.bind_eq_some_iff.mp hf
      refine r_getI (dGet dX12_called (j := 7) rfl) F12_356 et32 ?_
      refine r_istore (lv' := [(4, .int t32), (0, .ref v0), (1, .int v1), (2, .int v2), (3, .int v3)]) (dGet dX12_called (j := 8) rfl) (by decide) rfl ?_
      refine r_aload_n (dGet dX12_called (j := 9) rfl) nv0 rfl ?_
      refine r_bipush (dGet dX12_called (j := 10) rfl) kB_41 ?_
      obtain ⟨q33, eq33, hf⟩ := Option.bind_eq_some_iff.mp hf
      refine r_virtual (dGet dX12_called (j := 11) rfl) L12_295 M247 rfl rfl (Nat.le_of_ble_eq_true rfl) (oX12_isSign eq33) (cX12_isSign X N (d + 4) v0 (41 : Int32) q30.2 q33 eq33) ?_
      by_cases c34 : q33.1 = 0
      · rw [if_pos c34] at hf
        refine r_if_ne_f (dGet dX12_called (j := 12) rfl) rfl c34 ?_
        refine r_iconst (dGet dX12_called (j := 13) rfl) kI_1 ?_
        refine r_goto (dGet dX12_called (j := 14) rfl) rfl ?_
        refine Run.weak [(0, .ref v0), (1, .int v1), (2, .int v2), (3, .int v3), (4, .int t32)] (by simp) (by simp [pNd]) ?_
        exact lX12_called_30 X N d rc hrc v0 v1 v2 v3 t32 (1 : Int32) q33.2 q hf nv0
      · rw [if_neg c34] at hf
        refine r_if_ne_t (dGet dX12_called (j := 12) rfl) rfl c34 ?_
        refine r_iconst (dGet dX12_called (j := 15) rfl) kI_0 ?_
        refine Run.weak [(0, .ref v0), (1, .int v1), (2, .int v2), (3, .int v3), (4, .int t32)] (by simp) (by simp [pNd]) ?_
        exact lX12_called_30 X N d rc hrc v0 v1 v2 v3 t32 (0 : Int32) q33.2 q hf nv0
  · rw [if_neg hc] at hf; cases hf
