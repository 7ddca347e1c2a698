/-! ===== WEAK: a run doesn't look at locals that it doesn't know ===== -/
def pNd (lv : pL) : Prop := (lv.map (fun q => q.1)).Nodup
theorem pGet_of {lv : pL} (hn : pNd lv) {i : Nat} {v : Value} (h : (i, v) ∈ lv) : pGet lv i = some v := by
  unfold pGet
  unfold pNd at hn
  induction lv with
  | nil => cases h
  | cons q l ih =>
    rw [List.map_cons, List.nodup_cons] at hn
    rcases List.mem_cons.mp h with rfl | h
    · simp
    · have hne : ¬ q.1 = i := fun z => hn.1 (by rw [z]; exact List.mem_map.mpr ⟨(i, v), h, rfl⟩)
      rw [List.find?_cons_of_neg (by simpa using hne)]
      exact ih hn.2 h
theorem pNd_filter {lv : pL} (hn : pNd lv) (f : Nat × Value → Bool) : pNd (lv.filter f) := List.Nodup.sublist ((List.filter_sublist).map _) hn
theorem pNd_set {lv : pL} (hn : pNd lv) (i : Nat) (v : Value) (f : Nat × Value → Bool) (hf : ∀ q, f q = true → ¬ q.1 = i) : pNd ((i, v) :: lv.filter f) := by
  unfold pNd
  rw [List.map_cons, List.nodup_cons]
  refine ⟨fun z => ?_, pNd_filter hn f⟩
  obtain ⟨q, hq, e⟩ := List.mem_map.mp z
  exact hf q (List.mem_filter.mp hq).2 e
theorem pNd_set1 {lv : pL} (hn : pNd lv) (i : Nat) (v : Value) : pNd (pSet1 lv i v) := pNd_set hn i v _ (fun q hq => by simp at hq; exact hq.1)
theorem pNd_set2 {lv : pL} (hn : pNd lv) (i : Nat) (v : Value) : pNd (pSet2 lv i v) := pNd_set hn i v _ (fun q hq => by simp at hq; exact hq.1)
theorem pSub_set {lv' lv : pL} (hs : ∀ q ∈ lv', q ∈ lv) (x : Nat × Value) (f : Nat × Value → Bool) : ∀ q ∈ x :: lv'.filter f, q ∈ x :: lv.filter f := fun q hq => by
  rcases List.mem_cons.mp hq with rfl | hq
  · exact List.mem_cons_self
  · obtain ⟨h1, h2⟩ := List.mem_filter.mp hq
    exact List.mem_cons_of_mem _ (List.mem_filter.mpr ⟨hs q h1, h2⟩)
theorem pGet_weak {lv' lv : pL} (hs : ∀ q ∈ lv', q ∈ lv) (hn : pNd lv) {i : Nat} {v : Value} (h : pGet lv' i = some v) : pGet lv i = some v := pGet_of hn (hs _ (pGet_mem h))
section WEK
variable {X : pX} {cls : Nat} {ini : Bool} {nL pc : Nat} {lv lv' : pL} {st : List Value} {h : pH}
set_option maxHeartbeats 4000000 in
theorem pstep_weak {i : Instr} (hsub : ∀ q ∈ lv', q ∈ lv) (hnd : pNd lv) {pc1 : Nat} {l1' : pL} {st1 : List Value} {h1 : pH} (hs : pstep X cls ini nL i pc lv' st h = some (pc1, l1', st1, h1)) : ∃ l1, pstep X cls ini nL i pc lv st h = some (pc1, l1, st1, h1) ∧ (∀ q ∈ l1', q ∈ l1) ∧ pNd l1 := by
  cases i <;> (unfold pstep at hs ⊢; dsimp only at hs ⊢)
  all_goals try (cases hs; done)
  case aload n =>
    obtain ⟨s1, e1, e2⟩ := Option.map_eq_some_iff.mp hs
    cases e2
    obtain ⟨a, ha, hg, rfl⟩ := pALoad_some e1
    refine ⟨lv, ?_, hsub, hnd⟩
    unfold pALoad
    rw [pGet_weak hsub hnd hg]
    dsimp only
    rw [if_neg ha]
    rfl
  case aload_n n =>
    obtain ⟨s1, e1, e2⟩ := Option.map_eq_some_iff.mp hs
    cases e2
    obtain ⟨a, ha, hg, rfl⟩ := pALoad_some e1
    refine ⟨lv, ?_, hsub, hnd⟩
    unfold pALoad
    rw [pGet_weak hsub hnd hg]
    dsimp only
    rw [if_neg ha]
    rfl
  case iload n =>
    obtain ⟨s1, e1, e2⟩ := Option.map_eq_some_iff.mp hs
    cases e2
    obtain ⟨a, hg, rfl⟩ := pILoad_some e1
    refine ⟨lv, ?_, hsub, hnd⟩
    unfold pILoad
    rw [pGet_weak hsub hnd hg]
    rfl
  case iload_n n =>
    obtain ⟨s1, e1, e2⟩ := Option.map_eq_some_iff.mp hs
    cases e2
    obtain ⟨a, hg, rfl⟩ := pILoad_some e1
    refine ⟨lv, ?_, hsub, hnd⟩
    unfold pILoad
    rw [pGet_weak hsub hnd hg]
    rfl
  case lload n =>
    obtain ⟨s1, e1, e2⟩ := Option.map_eq_some_iff.mp hs
    cases e2
    obtain ⟨a, hg, rfl⟩ := pLLoad_some e1
    refine ⟨lv, ?_, hsub, hnd⟩
    unfold pLLoad
    rw [pGet_weak hsub hnd hg]
    rfl
  case lload_n n =>
    obtain ⟨s1, e1, e2⟩ := Option.map_eq_some_iff.mp hs
    cases e2
    obtain ⟨a, hg, rfl⟩ := pLLoad_some e1
    refine ⟨lv, ?_, hsub, hnd⟩
    unfold pLLoad
    rw [pGet_weak hsub hnd hg]
    rfl
  case astore n =>
    obtain ⟨s1, e1, e2⟩ := Option.map_eq_some_iff.mp hs
    cases e2
    obtain ⟨a, r, rfl, hn, ha, rfl⟩ := pAStore_some e1
    refine ⟨pSet1 lv n (.ref a), ?_, pSub_set hsub _ _, pNd_set1 hnd _ _⟩
    unfold pAStore
    dsimp only
    rw [if_pos ⟨hn, ha⟩]
    rfl
  case astore_n n =>
    obtain ⟨s1, e1, e2⟩ := Option.map_eq_some_iff.mp hs
    cases e2
    obtain ⟨a, r, rfl, hn, ha, rfl⟩ := pAStore_some e1
    refine ⟨pSet1 lv n.val (.ref a), ?_, pSub_set hsub _ _, pNd_set1 hnd _ _⟩
    unfold pAStore
    dsimp only
    rw [if_pos ⟨hn, ha⟩]
    rfl
  case istore n =>
    obtain ⟨s1, e1, e2⟩ := Option.map_eq_some_iff.mp hs
    cases e2
    obtain ⟨a, r, rfl, hn, rfl⟩ := pIStore_some e1
    refine ⟨pSet1 lv n (.int a), ?_, pSub_set hsub _ _, pNd_set1 hnd _ _⟩
    unfold pIStore
    dsimp only
    rw [if_pos hn]
    rfl
  case istore_n n =>
    obtain ⟨s1, e1, e2⟩ := Option.map_eq_some_iff.mp hs
    cases e2
    obtain ⟨a, r, rfl, hn, rfl⟩ := pIStore_some e1
    refine ⟨pSet1 lv n.val (.int a), ?_, pSub_set hsub _ _, pNd_set1 hnd _ _⟩
    unfold pIStore
    dsimp only
    rw [if_pos hn]
    rfl
  case lstore n =>
    obtain ⟨s1, e1, e2⟩ := Option.map_eq_some_iff.mp hs
    cases e2
    obtain ⟨a, r, rfl, hn, rfl⟩ := pLStore_some e1
    refine ⟨pSet2 lv n (.long a), ?_, pSub_set hsub _ _, pNd_set2 hnd _ _⟩
    unfold pLStore
    dsimp only
    rw [if_pos hn]
    rfl
  case lstore_n n =>
    obtain ⟨s1, e1, e2⟩ := Option.map_eq_some_iff.mp hs
    cases e2
    obtain ⟨a, r, rfl, hn, rfl⟩ := pLStore_some e1
    refine ⟨pSet2 lv n.val (.long a), ?_, pSub_set hsub _ _, pNd_set2 hnd _ _⟩
    unfold pLStore
    dsimp only
    rw [if_pos hn]
    rfl
  case iinc n d =>
    obtain ⟨s1, e1, e2⟩ := Option.map_eq_some_iff.mp hs
    cases e2
    obtain ⟨x, hg, hn, rfl⟩ := pIinc_some e1
    refine ⟨pSet1 lv n (.int (x + Int32.ofInt d)), ?_, pSub_set hsub _ _, pNd_set1 hnd _ _⟩
    unfold pIinc
    rw [pGet_weak hsub hnd hg]
    dsimp only
    rw [if_pos hn]
    rfl
  all_goals first
    | (obtain ⟨s1, e1, e2⟩ := Option.map_eq_some_iff.mp hs
       cases e2
       exact ⟨lv, by rw [e1]; rfl, hsub, hnd⟩)
    | (cases hs
       exact ⟨lv, rfl, hsub, hnd⟩)
    | (split at hs
       · first
         | (split at hs
            · cases hs
              rename_i hv
              exact ⟨lv, by rw [if_pos hv], hsub, hnd⟩
            · cases hs)
         | (obtain ⟨s1, e1, e2⟩ := Option.map_eq_some_iff.mp hs
            cases e2
            exact ⟨lv, by rw [e1]; rfl, hsub, hnd⟩)
         | (obtain ⟨s1, e1, e2⟩ := Option.bind_eq_some_iff.mp hs
            obtain ⟨s2, e3, e4⟩ := Option.map_eq_some_iff.mp e2
            cases e4
            exact ⟨lv, by rw [e1]; dsimp only [Option.bind]; rw [e3]; rfl, hsub, hnd⟩)
       · cases hs)
theorem pstep_make {i : Instr} {x : Nat × List Value × pH × Nat × Nat} (hm : pmake cls i pc st h = some x) : pstep X cls ini nL i pc lv st h = none := by
  unfold pmake at hm
  split at hm
  · rfl
  · rfl
  · rfl
  · cases hm
theorem pstep_calls {call : Nat → List Value → pH → Option pR} {nat : Bool} {i : Instr} {x : List Value × pH × Nat × Nat} (hm : pcalls call nat cls i st h = some x) : pstep X cls ini nL i pc lv st h = none := by
  unfold pcalls at hm
  split at hm
  · rfl
  · rfl
  · rfl
  · cases hm
theorem prun_weak {cc : ByteArray} {ret : Option FieldType} {call : Nat → List Value → pH → Option pR} {nat : Bool} : ∀ (k pc : Nat) (lv lv' : pL) (st : List Value) (h : pH) (nc ns : Nat) (r : pR), (∀ q ∈ lv', q ∈ lv) → pNd lv → prun X call nat cls ini cc nL ret k pc lv' st h nc ns = some r → prun X call nat cls ini cc nL ret k pc lv st h nc ns = some r
  | 0, _, _, _, _, _, _, _, _, _, _, hs => by cases hs
  | k + 1, pc, lv, lv', st, h, nc, ns, r, hsub, hnd, hs => by
    unfold prun at hs ⊢
    split at hs
    · cases hs
    · rename_i i len hd
      split at hs
      · rename_i hlen
        (try rw [hd])
        (try dsimp only)
        (try rw [if_pos hlen])
        split at hs
        · rename_i v hv
          (try rw [hv])
          exact hs
        · rename_i hv
          (try rw [hv])
          (try dsimp only)
          split at hs
          · rename_i pc' lv1 st' h' e1
            obtain ⟨l1, g1, g2, g3⟩ := pstep_weak hsub hnd e1
            rw [g1]
            exact prun_weak k _ _ _ _ _ _ _ _ g2 g3 hs
          · split at hs
            · rename_i e1
              rw [pstep_make e1]
              (try dsimp only)
              (try rw [e1])
              exact prun_weak k _ _ _ _ _ _ _ _ hsub hnd hs
            · split at hs
              · rename_i e2 x st' h' dc ds e1
                rw [pstep_calls e1]
                (try dsimp only)
                (try rw [e2])
                (try dsimp only)
                (try rw [e1])
                exact prun_weak k _ _ _ _ _ _ _ _ hsub hnd hs
              · cases hs
      · cases hs
end WEK
/-- fewer locals, in any order -/
theorem Run.weak {X : pX} {n cls : Nat} {ini : Bool} {cc : ByteArray} {nL : Nat} {ret : Option FieldType} {pc : Nat} {lv : pL} {st : List Value} {h : pH} {nc ns : Nat} {r : pR} (lv' : pL) (hsub : ∀ q ∈ lv', q ∈ lv) (hnd : pNd lv) (K : Run X n cls ini cc nL ret pc lv' st h nc ns r) : Run X n cls ini cc nL ret pc lv st h nc ns r := by
  obtain ⟨K0, hK⟩ := K
  exact ⟨K0, fun K h1 k h2 => prun_weak k _ _ _ _ _ _ _ _ hsub hnd (hK K h1 k h2)⟩
