/-! ===== the interpreter's instructions, all of them ===== -/
section STQ
variable {p : Program} {l : Launch} {e : Env} {R : Room} {s : State} {m : MethodId} {args : Array Value} {below : List Frame} {meth : Method} {c : Code} {Q : State → Prop}
variable {G : pG} {X : pX} {D : va_G} {cls nL : Nat} {ini : Bool} {cc : ByteArray}
variable {pc pc' : Nat} {lv lv' : pL} {st st' : List Value} {h h' : pH} {nc ns : Nat}
set_option maxHeartbeats 4000000 in
theorem pstep_sound (FX : pFix p s m args meth c G X D cls nL ini cc) {i : Instr} {len : Nat} (hd : decode cc pc = .ok (i, len)) (hlen : pLenOk i len = true) (hs : pstep X cls ini nL i pc lv st h = some (pc', lv', st', h')) (K : pK p l e R s m args below meth c Q G D nL pc' lv' st' h' nc ns) : pK p l e R s m args below meth c Q G D nL pc lv st h nc ns := by
  obtain ⟨hx, hb, hml, hown, hcls, hts, hini, hE, hbase⟩ := id FX
  have hcat : G.2.2.1.category = 1 := hE.2.2.2.2.2.2.2.1
  cases i <;> (unfold pstep at hs; dsimp only at hs)
  all_goals try (cases hs; done)
  case aload n =>
    obtain rfl : len = 2 := by simpa [pLenOk, pLen] using hlen
    obtain ⟨s1, h1, h2⟩ := Option.map_eq_some_iff.mp hs
    cases h2
    obtain ⟨a, ha, hg, rfl⟩ := pALoad_some h1
    intro ls H locs hl hP hz hS
    have hg2 := rL_get hg hl
    rw [rV_ref ha] at hg2
    refine lv_aload hx hb hd hg2 ?_
    have := K ls H locs hl hP hz hS
    rw [List.map_cons, rV_ref ha] at this
    exact this
  case aload_n n =>
    obtain rfl : len = 1 := by simpa [pLenOk, pLen] using hlen
    obtain ⟨s1, h1, h2⟩ := Option.map_eq_some_iff.mp hs
    cases h2
    obtain ⟨a, ha, hg, rfl⟩ := pALoad_some h1
    intro ls H locs hl hP hz hS
    have hg2 := rL_get hg hl
    rw [rV_ref ha] at hg2
    refine lv_aload_n hx hb hd rfl hg2 ?_
    have := K ls H locs hl hP hz hS
    rw [List.map_cons, rV_ref ha] at this
    exact this
  case iload n =>
    obtain rfl : len = 2 := by simpa [pLenOk, pLen] using hlen
    obtain ⟨s1, h1, h2⟩ := Option.map_eq_some_iff.mp hs
    cases h2
    obtain ⟨x, hg, rfl⟩ := pILoad_some h1
    intro ls H locs hl hP hz hS
    exact lv_iload hx hb hd (rL_get hg hl) (K ls H locs hl hP hz hS)
  case iload_n n =>
    obtain rfl : len = 1 := by simpa [pLenOk, pLen] using hlen
    obtain ⟨s1, h1, h2⟩ := Option.map_eq_some_iff.mp hs
    cases h2
    obtain ⟨x, hg, rfl⟩ := pILoad_some h1
    intro ls H locs hl hP hz hS
    exact lv_iload_n hx hb hd rfl (rL_get hg hl) (K ls H locs hl hP hz hS)
  case lload n =>
    obtain rfl : len = 2 := by simpa [pLenOk, pLen] using hlen
    obtain ⟨s1, h1, h2⟩ := Option.map_eq_some_iff.mp hs
    cases h2
    obtain ⟨x, hg, rfl⟩ := pLLoad_some h1
    intro ls H locs hl hP hz hS
    exact lv_lload hx hb hd (rL_get hg hl) (K ls H locs hl hP hz hS)
  case lload_n n =>
    obtain rfl : len = 1 := by simpa [pLenOk, pLen] using hlen
    obtain ⟨s1, h1, h2⟩ := Option.map_eq_some_iff.mp hs
    cases h2
    obtain ⟨x, hg, rfl⟩ := pLLoad_some h1
    intro ls H locs hl hP hz hS
    exact lv_lload_n hx hb hd rfl (rL_get hg hl) (K ls H locs hl hP hz hS)
  case astore n =>
    obtain rfl : len = 2 := by simpa [pLenOk, pLen] using hlen
    obtain ⟨s1, h1, h2⟩ := Option.map_eq_some_iff.mp hs
    cases h2
    obtain ⟨a, r, rfl, hn, ha, rfl⟩ := pAStore_some h1
    intro ls H locs hl hP hz hS
    show W p l e R s m args below meth c H locs nc ns Q (F0 m pc ls (rV G (.ref a) :: r.map (rV G)))
    have hset := rL_set1 hcat lv n (.ref a)
    rw [rV_ref ha] at hset ⊢
    exact lv_astore hx hb hd hl hn hset (fun ls hl => K ls H locs hl hP hz hS)
  case astore_n n =>
    obtain rfl : len = 1 := by simpa [pLenOk, pLen] using hlen
    obtain ⟨s1, h1, h2⟩ := Option.map_eq_some_iff.mp hs
    cases h2
    obtain ⟨a, r, rfl, hn, ha, rfl⟩ := pAStore_some h1
    intro ls H locs hl hP hz hS
    show W p l e R s m args below meth c H locs nc ns Q (F0 m pc ls (rV G (.ref a) :: r.map (rV G)))
    have hset := rL_set1 hcat lv n.val (.ref a)
    rw [rV_ref ha] at hset ⊢
    exact lv_astore_n hx hb hd rfl hl hn hset (fun ls hl => K ls H locs hl hP hz hS)
  case istore n =>
    obtain rfl : len = 2 := by simpa [pLenOk, pLen] using hlen
    obtain ⟨s1, h1, h2⟩ := Option.map_eq_some_iff.mp hs
    cases h2
    obtain ⟨x, r, rfl, hn, rfl⟩ := pIStore_some h1
    intro ls H locs hl hP hz hS
    exact lv_istore hx hb hd hl hn (rL_set1 hcat lv n (.int x)) (fun ls hl => K ls H locs hl hP hz hS)
  case istore_n n =>
    obtain rfl : len = 1 := by simpa [pLenOk, pLen] using hlen
    obtain ⟨s1, h1, h2⟩ := Option.map_eq_some_iff.mp hs
    cases h2
    obtain ⟨x, r, rfl, hn, rfl⟩ := pIStore_some h1
    intro ls H locs hl hP hz hS
    exact lv_istore_n hx hb hd rfl hl hn (rL_set1 hcat lv n.val (.int x)) (fun ls hl => K ls H locs hl hP hz hS)
  case lstore n =>
    obtain rfl : len = 2 := by simpa [pLenOk, pLen] using hlen
    obtain ⟨s1, h1, h2⟩ := Option.map_eq_some_iff.mp hs
    cases h2
    obtain ⟨x, r, rfl, hn, rfl⟩ := pLStore_some h1
    intro ls H locs hl hP hz hS
    exact lv_lstore hx hb hd hl hn (rL_set2 hcat lv n (.long x)) (fun ls hl => K ls H locs hl hP hz hS)
  case lstore_n n =>
    obtain rfl : len = 1 := by simpa [pLenOk, pLen] using hlen
    obtain ⟨s1, h1, h2⟩ := Option.map_eq_some_iff.mp hs
    cases h2
    obtain ⟨x, r, rfl, hn, rfl⟩ := pLStore_some h1
    intro ls H locs hl hP hz hS
    exact lv_lstore_n hx hb hd rfl hl hn (rL_set2 hcat lv n.val (.long x)) (fun ls hl => K ls H locs hl hP hz hS)
  case iinc n d =>
    obtain rfl : len = 3 := by simpa [pLenOk, pLen] using hlen
    obtain ⟨s1, h1, h2⟩ := Option.map_eq_some_iff.mp hs
    cases h2
    obtain ⟨x, hg, hn, rfl⟩ := pIinc_some h1
    intro ls H locs hl hP hz hS
    obtain ⟨k, hk⟩ := rL_idx (G := G) hg
    exact lv_iinc hx hb hd hl hk rfl hn (rL_set1 hcat lv n (.int (x + Int32.ofInt d))) (fun ls hl => K ls H locs hl hP hz hS)
  case iconst n =>
    obtain rfl : len = 1 := by simpa [pLenOk, pLen] using hlen
    cases hs
    intro ls H locs hl hP hz hS
    exact lv_iconst hx hb hd rfl (K ls H locs hl hP hz hS)
  case bipush n =>
    obtain rfl : len = 2 := by simpa [pLenOk, pLen] using hlen
    cases hs
    intro ls H locs hl hP hz hS
    exact lv_bipush hx hb hd rfl (K ls H locs hl hP hz hS)
  case sipush n =>
    obtain rfl : len = 3 := by simpa [pLenOk, pLen] using hlen
    cases hs
    intro ls H locs hl hP hz hS
    exact lv_sipush hx hb hd rfl (K ls H locs hl hP hz hS)
  case lconst n =>
    obtain rfl : len = 1 := by simpa [pLenOk, pLen] using hlen
    cases hs
    intro ls H locs hl hP hz hS
    exact lv_lconst hx hb hd rfl (K ls H locs hl hP hz hS)
  case iadd =>
    obtain rfl : len = 1 := by simpa [pLenOk, pLen] using hlen
    obtain ⟨s1, h1, h2⟩ := Option.map_eq_some_iff.mp hs
    cases h2
    obtain ⟨x, y, r, z, rfl, h3, rfl⟩ := pII_some h1
    cases h3
    intro ls H locs hl hP hz hS
    exact lv_iadd hx hb hd (K ls H locs hl hP hz hS)
  case isub =>
    obtain rfl : len = 1 := by simpa [pLenOk, pLen] using hlen
    obtain ⟨s1, h1, h2⟩ := Option.map_eq_some_iff.mp hs
    cases h2
    obtain ⟨x, y, r, z, rfl, h3, rfl⟩ := pII_some h1
    cases h3
    intro ls H locs hl hP hz hS
    exact lv_isub hx hb hd (K ls H locs hl hP hz hS)
  case imul =>
    obtain rfl : len = 1 := by simpa [pLenOk, pLen] using hlen
    obtain ⟨s1, h1, h2⟩ := Option.map_eq_some_iff.mp hs
    cases h2
    obtain ⟨x, y, r, z, rfl, h3, rfl⟩ := pII_some h1
    cases h3
    intro ls H locs hl hP hz hS
    exact lv_imul hx hb hd (K ls H locs hl hP hz hS)
  case iand =>
    obtain rfl : len = 1 := by simpa [pLenOk, pLen] using hlen
    obtain ⟨s1, h1, h2⟩ := Option.map_eq_some_iff.mp hs
    cases h2
    obtain ⟨x, y, r, z, rfl, h3, rfl⟩ := pII_some h1
    cases h3
    intro ls H locs hl hP hz hS
    exact lv_iand hx hb hd (K ls H locs hl hP hz hS)
  case ior =>
    obtain rfl : len = 1 := by simpa [pLenOk, pLen] using hlen
    obtain ⟨s1, h1, h2⟩ := Option.map_eq_some_iff.mp hs
    cases h2
    obtain ⟨x, y, r, z, rfl, h3, rfl⟩ := pII_some h1
    cases h3
    intro ls H locs hl hP hz hS
    exact lv_ior hx hb hd (K ls H locs hl hP hz hS)
  case ixor =>
    obtain rfl : len = 1 := by simpa [pLenOk, pLen] using hlen
    obtain ⟨s1, h1, h2⟩ := Option.map_eq_some_iff.mp hs
    cases h2
    obtain ⟨x, y, r, z, rfl, h3, rfl⟩ := pII_some h1
    cases h3
    intro ls H locs hl hP hz hS
    exact lv_ixor hx hb hd (K ls H locs hl hP hz hS)
  case ishl =>
    obtain rfl : len = 1 := by simpa [pLenOk, pLen] using hlen
    obtain ⟨s1, h1, h2⟩ := Option.map_eq_some_iff.mp hs
    cases h2
    obtain ⟨x, y, r, z, rfl, h3, rfl⟩ := pII_some h1
    cases h3
    intro ls H locs hl hP hz hS
    exact lv_ishl hx hb hd (K ls H locs hl hP hz hS)
  case ishr =>
    obtain rfl : len = 1 := by simpa [pLenOk, pLen] using hlen
    obtain ⟨s1, h1, h2⟩ := Option.map_eq_some_iff.mp hs
    cases h2
    obtain ⟨x, y, r, z, rfl, h3, rfl⟩ := pII_some h1
    cases h3
    intro ls H locs hl hP hz hS
    exact lv_ishr hx hb hd (K ls H locs hl hP hz hS)
  case iushr =>
    obtain rfl : len = 1 := by simpa [pLenOk, pLen] using hlen
    obtain ⟨s1, h1, h2⟩ := Option.map_eq_some_iff.mp hs
    cases h2
    obtain ⟨x, y, r, z, rfl, h3, rfl⟩ := pII_some h1
    cases h3
    intro ls H locs hl hP hz hS
    exact lv_iushr hx hb hd rfl (K ls H locs hl hP hz hS)
  case idiv =>
    obtain rfl : len = 1 := by simpa [pLenOk, pLen] using hlen
    obtain ⟨s1, h1, h2⟩ := Option.map_eq_some_iff.mp hs
    cases h2
    obtain ⟨x, y, r, z, rfl, h3, rfl⟩ := pII_some h1
    by_cases hy : y = 0
    · rw [if_pos hy] at h3; cases h3
    · rw [if_neg hy] at h3
      cases h3
      intro ls H locs hl hP hz hS
      exact lv_idiv hx hb hd hy (K ls H locs hl hP hz hS)
  case irem =>
    obtain rfl : len = 1 := by simpa [pLenOk, pLen] using hlen
    obtain ⟨s1, h1, h2⟩ := Option.map_eq_some_iff.mp hs
    cases h2
    obtain ⟨x, y, r, z, rfl, h3, rfl⟩ := pII_some h1
    by_cases hy : y = 0
    · rw [if_pos hy] at h3; cases h3
    · rw [if_neg hy] at h3
      cases h3
      intro ls H locs hl hP hz hS
      exact lv_irem hx hb hd hy (K ls H locs hl hP hz hS)
  case ineg =>
    obtain rfl : len = 1 := by simpa [pLenOk, pLen] using hlen
    obtain ⟨s1, h1, h2⟩ := Option.map_eq_some_iff.mp hs
    cases h2
    obtain ⟨x, r, rfl, rfl⟩ := pI1_some h1
    intro ls H locs hl hP hz hS
    exact lv_ineg hx hb hd (K ls H locs hl hP hz hS)
  case i2b =>
    obtain rfl : len = 1 := by simpa [pLenOk, pLen] using hlen
    obtain ⟨s1, h1, h2⟩ := Option.map_eq_some_iff.mp hs
    cases h2
    obtain ⟨x, r, rfl, rfl⟩ := pI1_some h1
    intro ls H locs hl hP hz hS
    exact lv_i2b hx hb hd rfl (K ls H locs hl hP hz hS)
  case i2c =>
    obtain rfl : len = 1 := by simpa [pLenOk, pLen] using hlen
    obtain ⟨s1, h1, h2⟩ := Option.map_eq_some_iff.mp hs
    cases h2
    obtain ⟨x, r, rfl, rfl⟩ := pI1_some h1
    intro ls H locs hl hP hz hS
    exact lv_i2c hx hb hd rfl (K ls H locs hl hP hz hS)
  case i2l =>
    obtain rfl : len = 1 := by simpa [pLenOk, pLen] using hlen
    obtain ⟨s1, h1, h2⟩ := Option.map_eq_some_iff.mp hs
    cases h2
    obtain ⟨x, r, rfl, rfl⟩ := pI1_some h1
    intro ls H locs hl hP hz hS
    exact lv_i2l hx hb hd rfl (K ls H locs hl hP hz hS)
  case l2i =>
    obtain rfl : len = 1 := by simpa [pLenOk, pLen] using hlen
    obtain ⟨s1, h1, h2⟩ := Option.map_eq_some_iff.mp hs
    cases h2
    obtain ⟨x, r, rfl, rfl⟩ := pL1_some h1
    intro ls H locs hl hP hz hS
    exact lv_l2i hx hb hd rfl (K ls H locs hl hP hz hS)
  case ladd =>
    obtain rfl : len = 1 := by simpa [pLenOk, pLen] using hlen
    obtain ⟨s1, h1, h2⟩ := Option.map_eq_some_iff.mp hs
    cases h2
    obtain ⟨x, y, r, rfl, rfl⟩ := pLL_some h1
    intro ls H locs hl hP hz hS
    exact lv_ladd hx hb hd (K ls H locs hl hP hz hS)
  case land =>
    obtain rfl : len = 1 := by simpa [pLenOk, pLen] using hlen
    obtain ⟨s1, h1, h2⟩ := Option.map_eq_some_iff.mp hs
    cases h2
    obtain ⟨x, y, r, rfl, rfl⟩ := pLL_some h1
    intro ls H locs hl hP hz hS
    exact lv_land hx hb hd (K ls H locs hl hP hz hS)
  case lor =>
    obtain rfl : len = 1 := by simpa [pLenOk, pLen] using hlen
    obtain ⟨s1, h1, h2⟩ := Option.map_eq_some_iff.mp hs
    cases h2
    obtain ⟨x, y, r, rfl, rfl⟩ := pLL_some h1
    intro ls H locs hl hP hz hS
    exact lv_lor hx hb hd (K ls H locs hl hP hz hS)
  case lcmp =>
    obtain rfl : len = 1 := by simpa [pLenOk, pLen] using hlen
    obtain ⟨s1, h1, h2⟩ := Option.map_eq_some_iff.mp hs
    cases h2
    obtain ⟨x, y, r, rfl, rfl⟩ := pLL_some h1
    intro ls H locs hl hP hz hS
    exact W.lcmp hx hb hd (K ls H locs hl hP hz hS)
  case dup =>
    obtain rfl : len = 1 := by simpa [pLenOk, pLen] using hlen
    split at hs
    · rename_i v r
      by_cases hv : v.category = 1
      · rw [if_pos hv] at hs
        cases hs
        intro ls H locs hl hP hz hS
        exact lv_dup hx hb hd (by rw [rV_cat hcat]; exact hv) (K ls H locs hl hP hz hS)
      · rw [if_neg hv] at hs; cases hs
    · cases hs
  case dup2 =>
    obtain rfl : len = 1 := by simpa [pLenOk, pLen] using hlen
    split at hs
    · rename_i v w r
      by_cases hv : v.category = 1 ∧ w.category = 1
      · rw [if_pos hv] at hs
        cases hs
        intro ls H locs hl hP hz hS
        exact lv_dup2_11 hx hb hd (by rw [rV_cat hcat]; exact hv.1) (by rw [rV_cat hcat]; exact hv.2) (K ls H locs hl hP hz hS)
      · rw [if_neg hv] at hs; cases hs
    · cases hs
  case pop =>
    obtain rfl : len = 1 := by simpa [pLenOk, pLen] using hlen
    split at hs
    · rename_i v r
      by_cases hv : v.category = 1
      · rw [if_pos hv] at hs
        cases hs
        intro ls H locs hl hP hz hS
        exact lv_pop hx hb hd (by rw [rV_cat hcat]; exact hv) (K ls H locs hl hP hz hS)
      · rw [if_neg hv] at hs; cases hs
    · cases hs
  case pop2 =>
    obtain rfl : len = 1 := by simpa [pLenOk, pLen] using hlen
    split at hs
    · rename_i v r
      by_cases hv : v.category = 2
      · rw [if_pos hv] at hs
        cases hs
        intro ls H locs hl hP hz hS
        exact lv_pop2_2 hx hb hd (by rw [rV_cat hcat]; exact hv) (K ls H locs hl hP hz hS)
      · rw [if_neg hv] at hs; cases hs
    · cases hs
  case goto off =>
    obtain rfl : len = 3 := by simpa [pLenOk, pLen] using hlen
    obtain ⟨s1, h1, h2⟩ := Option.map_eq_some_iff.mp hs
    cases h2
    intro ls H locs hl hP hz hS
    exact lv_goto hx hb hd (pJump_some h1) (K ls H locs hl hP hz hS)
  case ifCond c off =>
    obtain rfl : len = 3 := by simpa [pLenOk, pLen] using hlen
    split at hs
    · rename_i x r
      obtain ⟨t, h1, h2⟩ := Option.map_eq_some_iff.mp hs
      cases h2
      have ht := pJump_some h1
      intro ls H locs hl hP hz hS
      cases c
      · exact lv_if_eq hx hb hd ht (fun q => by rw [if_pos (show pCmp .eq x 0 = true from decide_eq_true q)] at K; exact K ls H locs hl hP hz hS) (fun q => by rw [if_neg (show ¬ pCmp .eq x 0 = true from fun z => q (of_decide_eq_true z))] at K; exact K ls H locs hl hP hz hS)
      · exact lv_if_ne hx hb hd ht (fun q => by rw [if_pos (show pCmp .ne x 0 = true from decide_eq_true q)] at K; exact K ls H locs hl hP hz hS) (fun q => by rw [if_neg (show ¬ pCmp .ne x 0 = true from fun z => (of_decide_eq_true z) q)] at K; exact K ls H locs hl hP hz hS)
      · exact lv_if_lt hx hb hd ht (fun q => by rw [if_pos (show pCmp .lt x 0 = true from decide_eq_true q)] at K; exact K ls H locs hl hP hz hS) (fun q => by rw [if_neg (show ¬ pCmp .lt x 0 = true from fun z => q (of_decide_eq_true z))] at K; exact K ls H locs hl hP hz hS)
      · exact lv_if_ge hx hb hd ht (fun q => by rw [if_pos (show pCmp .ge x 0 = true from decide_eq_true q)] at K; exact K ls H locs hl hP hz hS) (fun q => by rw [if_neg (show ¬ pCmp .ge x 0 = true from fun z => q (of_decide_eq_true z))] at K; exact K ls H locs hl hP hz hS)
      · exact lv_if_gt hx hb hd ht (fun q => by rw [if_pos (show pCmp .gt x 0 = true from decide_eq_true q)] at K; exact K ls H locs hl hP hz hS) (fun q => by rw [if_neg (show ¬ pCmp .gt x 0 = true from fun z => q (of_decide_eq_true z))] at K; exact K ls H locs hl hP hz hS)
      · exact lv_if_le hx hb hd ht (fun q => by rw [if_pos (show pCmp .le x 0 = true from decide_eq_true q)] at K; exact K ls H locs hl hP hz hS) (fun q => by rw [if_neg (show ¬ pCmp .le x 0 = true from fun z => q (of_decide_eq_true z))] at K; exact K ls H locs hl hP hz hS)
    · cases hs
  case if_icmp c off =>
    obtain rfl : len = 3 := by simpa [pLenOk, pLen] using hlen
    split at hs
    · rename_i y x r
      obtain ⟨t, h1, h2⟩ := Option.map_eq_some_iff.mp hs
      cases h2
      have ht := pJump_some h1
      intro ls H locs hl hP hz hS
      cases c
      · exact lv_icmp_eq hx hb hd ht (fun q => by rw [if_pos (show pCmp .eq x y = true from decide_eq_true q)] at K; exact K ls H locs hl hP hz hS) (fun q => by rw [if_neg (show ¬ pCmp .eq x y = true from fun z => q (of_decide_eq_true z))] at K; exact K ls H locs hl hP hz hS)
      · exact lv_icmp_ne hx hb hd ht (fun q => by rw [if_pos (show pCmp .ne x y = true from decide_eq_true q)] at K; exact K ls H locs hl hP hz hS) (fun q => by rw [if_neg (show ¬ pCmp .ne x y = true from fun z => (of_decide_eq_true z) q)] at K; exact K ls H locs hl hP hz hS)
      · exact lv_icmp_lt hx hb hd ht (fun q => by rw [if_pos (show pCmp .lt x y = true from decide_eq_true q)] at K; exact K ls H locs hl hP hz hS) (fun q => by rw [if_neg (show ¬ pCmp .lt x y = true from fun z => q (of_decide_eq_true z))] at K; exact K ls H locs hl hP hz hS)
      · exact lv_icmp_ge hx hb hd ht (fun q => by rw [if_pos (show pCmp .ge x y = true from decide_eq_true q)] at K; exact K ls H locs hl hP hz hS) (fun q => by rw [if_neg (show ¬ pCmp .ge x y = true from fun z => q (of_decide_eq_true z))] at K; exact K ls H locs hl hP hz hS)
      · exact lv_icmp_gt hx hb hd ht (fun q => by rw [if_pos (show pCmp .gt x y = true from decide_eq_true q)] at K; exact K ls H locs hl hP hz hS) (fun q => by rw [if_neg (show ¬ pCmp .gt x y = true from fun z => q (of_decide_eq_true z))] at K; exact K ls H locs hl hP hz hS)
      · exact lv_icmp_le hx hb hd ht (fun q => by rw [if_pos (show pCmp .le x y = true from decide_eq_true q)] at K; exact K ls H locs hl hP hz hS) (fun q => by rw [if_neg (show ¬ pCmp .le x y = true from fun z => q (of_decide_eq_true z))] at K; exact K ls H locs hl hP hz hS)
    · cases hs
  case tableswitch dflt lo hi offs =>
    split at hs
    · rename_i x r
      obtain ⟨off, h1, h2⟩ := Option.bind_eq_some_iff.mp hs
      obtain ⟨t, h3, h4⟩ := Option.map_eq_some_iff.mp h2
      cases h4
      intro ls H locs hl hP hz hS
      unfold pTable at h1
      by_cases q : x.toInt < lo ∨ hi < x.toInt
      · rw [if_pos q] at h1
        cases h1
        exact lv_tableOut hx hb hd q (pJump_some h3) (K ls H locs hl hP hz hS)
      · rw [if_neg q] at h1
        exact lv_tableIn hx hb hd (fun z => q (Or.inl z)) (fun z => q (Or.inr z)) h1 (pJump_some h3) (K ls H locs hl hP hz hS)
    · cases hs
  case lookupswitch dflt ps =>
    split at hs
    · rename_i x r
      obtain ⟨off, h1, h2⟩ := Option.bind_eq_some_iff.mp hs
      obtain ⟨t, h3, h4⟩ := Option.map_eq_some_iff.mp h2
      cases h4
      intro ls H locs hl hP hz hS
      unfold pLookup at h1
      by_cases q : (ps.toList.zip (ps.toList.drop 1)).all (fun (a, next) => a.1 < next.1) = true
      · rw [if_pos q] at h1
        cases h1
        exact lv_lookup hx hb hd q rfl (pJump_some h3) (K ls H locs hl hP hz hS)
      · rw [if_neg q] at h1; cases h1
    · cases hs
  case getfield n =>
    obtain rfl : len = 3 := by simpa [pLenOk, pLen] using hlen
    obtain ⟨s1, h1, h2⟩ := Option.map_eq_some_iff.mp hs
    cases h2
    exact st_getf FX hd h1 K
  case putfield n =>
    obtain rfl : len = 3 := by simpa [pLenOk, pLen] using hlen
    obtain ⟨s1, h1, h2⟩ := Option.map_eq_some_iff.mp hs
    cases h2
    exact st_putf FX hd h1 K
  case getstatic n =>
    obtain rfl : len = 3 := by simpa [pLenOk, pLen] using hlen
    obtain ⟨s1, h1, h2⟩ := Option.map_eq_some_iff.mp hs
    cases h2
    exact st_gets FX hd h1 K
  case ldc n =>
    obtain rfl : len = 2 := by simpa [pLenOk, pLen] using hlen
    obtain ⟨s1, h1, h2⟩ := Option.map_eq_some_iff.mp hs
    cases h2
    exact st_ldc FX hd h1 K
  case ldc_w n =>
    obtain rfl : len = 3 := by simpa [pLenOk, pLen] using hlen
    obtain ⟨s1, h1, h2⟩ := Option.map_eq_some_iff.mp hs
    cases h2
    exact st_ldcw FX hd h1 K
  case ldc2_w n =>
    obtain rfl : len = 3 := by simpa [pLenOk, pLen] using hlen
    obtain ⟨s1, h1, h2⟩ := Option.map_eq_some_iff.mp hs
    cases h2
    exact st_ldc2 FX hd h1 K
  case iaload =>
    obtain rfl : len = 1 := by simpa [pLenOk, pLen] using hlen
    obtain ⟨s1, h1, h2⟩ := Option.map_eq_some_iff.mp hs
    cases h2
    exact st_iald FX hd h1 K
  case baload =>
    obtain rfl : len = 1 := by simpa [pLenOk, pLen] using hlen
    obtain ⟨s1, h1, h2⟩ := Option.map_eq_some_iff.mp hs
    cases h2
    exact st_bald FX hd h1 K
  case laload =>
    obtain rfl : len = 1 := by simpa [pLenOk, pLen] using hlen
    obtain ⟨s1, h1, h2⟩ := Option.map_eq_some_iff.mp hs
    cases h2
    exact st_lald FX hd h1 K
  case aaload =>
    obtain rfl : len = 1 := by simpa [pLenOk, pLen] using hlen
    obtain ⟨s1, h1, h2⟩ := Option.map_eq_some_iff.mp hs
    cases h2
    exact st_aald FX hd h1 K
  case iastore =>
    obtain rfl : len = 1 := by simpa [pLenOk, pLen] using hlen
    obtain ⟨s1, h1, h2⟩ := Option.map_eq_some_iff.mp hs
    cases h2
    exact st_iast FX hd h1 K
  case bastore =>
    obtain rfl : len = 1 := by simpa [pLenOk, pLen] using hlen
    obtain ⟨s1, h1, h2⟩ := Option.map_eq_some_iff.mp hs
    cases h2
    exact st_bast FX hd h1 K
  case lastore =>
    obtain rfl : len = 1 := by simpa [pLenOk, pLen] using hlen
    obtain ⟨s1, h1, h2⟩ := Option.map_eq_some_iff.mp hs
    cases h2
    exact st_last FX hd h1 K
  case arraylength =>
    obtain rfl : len = 1 := by simpa [pLenOk, pLen] using hlen
    obtain ⟨s1, h1, h2⟩ := Option.map_eq_some_iff.mp hs
    cases h2
    exact st_alen FX hd h1 K
end STQ
