/-! ===== ROWS of the runs, one an instruction ===== -/
section RRW
variable {X : pX} {n cls : Nat} {ini : Bool} {cc : ByteArray} {nL : Nat} {ret : Option FieldType} {pc : Nat} {lv : pL} {st : List Value} {h : pH} {nc ns : Nat} {r : pR}
theorem r_iload {i : Nat} {x : Int32} (hd : decode cc pc = .ok (.iload i, 2)) (hg : pGet lv i = some (.int x)) (K : Run X n cls ini cc nL ret (pc + 2) lv (.int x :: st) h nc ns r) : Run X n cls ini cc nL ret pc lv st h nc ns r := r_step hd rfl rfl (by unfold pstep pILoad; dsimp only; rw [hg]; rfl) K
theorem r_iload_n {i : Fin 4} {x : Int32} (hd : decode cc pc = .ok (.iload_n i, 1)) (hg : pGet lv i.val = some (.int x)) (K : Run X n cls ini cc nL ret (pc + 1) lv (.int x :: st) h nc ns r) : Run X n cls ini cc nL ret pc lv st h nc ns r := r_step hd rfl rfl (by unfold pstep pILoad; dsimp only; rw [hg]; rfl) K
theorem r_lload {i : Nat} {x : Int64} (hd : decode cc pc = .ok (.lload i, 2)) (hg : pGet lv i = some (.long x)) (K : Run X n cls ini cc nL ret (pc + 2) lv (.long x :: st) h nc ns r) : Run X n cls ini cc nL ret pc lv st h nc ns r := r_step hd rfl rfl (by unfold pstep pLLoad; dsimp only; rw [hg]; rfl) K
theorem r_lload_n {i : Fin 4} {x : Int64} (hd : decode cc pc = .ok (.lload_n i, 1)) (hg : pGet lv i.val = some (.long x)) (K : Run X n cls ini cc nL ret (pc + 1) lv (.long x :: st) h nc ns r) : Run X n cls ini cc nL ret pc lv st h nc ns r := r_step hd rfl rfl (by unfold pstep pLLoad; dsimp only; rw [hg]; rfl) K
theorem r_aload {i x : Nat} (hd : decode cc pc = .ok (.aload i, 2)) (ha : ¬ x = 4) (hg : pGet lv i = some (.ref x)) (K : Run X n cls ini cc nL ret (pc + 2) lv (.ref x :: st) h nc ns r) : Run X n cls ini cc nL ret pc lv st h nc ns r := r_step hd rfl rfl (by unfold pstep pALoad; dsimp only; rw [hg]; dsimp only; rw [if_neg ha]; rfl) K
theorem r_aload_n {i : Fin 4} {x : Nat} (hd : decode cc pc = .ok (.aload_n i, 1)) (ha : ¬ x = 4) (hg : pGet lv i.val = some (.ref x)) (K : Run X n cls ini cc nL ret (pc + 1) lv (.ref x :: st) h nc ns r) : Run X n cls ini cc nL ret pc lv st h nc ns r := r_step hd rfl rfl (by unfold pstep pALoad; dsimp only; rw [hg]; dsimp only; rw [if_neg ha]; rfl) K
theorem r_istore {i : Nat} {x : Int32} {lv' : pL} (hd : decode cc pc = .ok (.istore i, 2)) (hn : i < nL) (hl : pSet1 lv i (.int x) = lv') (K : Run X n cls ini cc nL ret (pc + 2) lv' st h nc ns r) : Run X n cls ini cc nL ret pc lv (.int x :: st) h nc ns r := r_step hd rfl rfl (by unfold pstep pIStore; dsimp only; rw [if_pos hn, hl]; rfl) K
theorem r_istore_n {i : Fin 4} {x : Int32} {lv' : pL} (hd : decode cc pc = .ok (.istore_n i, 1)) (hn : i.val < nL) (hl : pSet1 lv i.val (.int x) = lv') (K : Run X n cls ini cc nL ret (pc + 1) lv' st h nc ns r) : Run X n cls ini cc nL ret pc lv (.int x :: st) h nc ns r := r_step hd rfl rfl (by unfold pstep pIStore; dsimp only; rw [if_pos hn, hl]; rfl) K
theorem r_lstore {i : Nat} {x : Int64} {lv' : pL} (hd : decode cc pc = .ok (.lstore i, 2)) (hn : i + 1 < nL) (hl : pSet2 lv i (.long x) = lv') (K : Run X n cls ini cc nL ret (pc + 2) lv' st h nc ns r) : Run X n cls ini cc nL ret pc lv (.long x :: st) h nc ns r := r_step hd rfl rfl (by unfold pstep pLStore; dsimp only; rw [if_pos hn, hl]; rfl) K
theorem r_lstore_n {i : Fin 4} {x : Int64} {lv' : pL} (hd : decode cc pc = .ok (.lstore_n i, 1)) (hn : i.val + 1 < nL) (hl : pSet2 lv i.val (.long x) = lv') (K : Run X n cls ini cc nL ret (pc + 1) lv' st h nc ns r) : Run X n cls ini cc nL ret pc lv (.long x :: st) h nc ns r := r_step hd rfl rfl (by unfold pstep pLStore; dsimp only; rw [if_pos hn, hl]; rfl) K
theorem r_astore {i x : Nat} {lv' : pL} (hd : decode cc pc = .ok (.astore i, 2)) (ha : ¬ x = 4) (hn : i < nL) (hl : pSet1 lv i (.ref x) = lv') (K : Run X n cls ini cc nL ret (pc + 2) lv' st h nc ns r) : Run X n cls ini cc nL ret pc lv (.ref x :: st) h nc ns r := r_step hd rfl rfl (by unfold pstep pAStore; dsimp only; rw [if_pos ⟨hn, ha⟩, hl]; rfl) K
theorem r_astore_n {i : Fin 4} {x : Nat} {lv' : pL} (hd : decode cc pc = .ok (.astore_n i, 1)) (ha : ¬ x = 4) (hn : i.val < nL) (hl : pSet1 lv i.val (.ref x) = lv') (K : Run X n cls ini cc nL ret (pc + 1) lv' st h nc ns r) : Run X n cls ini cc nL ret pc lv (.ref x :: st) h nc ns r := r_step hd rfl rfl (by unfold pstep pAStore; dsimp only; rw [if_pos ⟨hn, ha⟩, hl]; rfl) K
theorem r_iinc {i : Nat} {d : Int} {x y : Int32} {lv' : pL} (hd : decode cc pc = .ok (.iinc i d, 3)) (hg : pGet lv i = some (.int x)) (hn : i < nL) (hv : Int32.ofInt d = y) (hl : pSet1 lv i (.int (x + y)) = lv') (K : Run X n cls ini cc nL ret (pc + 3) lv' st h nc ns r) : Run X n cls ini cc nL ret pc lv st h nc ns r := r_step hd rfl rfl (by unfold pstep pIinc; dsimp only; rw [hg]; dsimp only; rw [if_pos hn, hv, hl]; rfl) K
theorem r_iconst {d : Int} {v : Int32} (hd : decode cc pc = .ok (.iconst d, 1)) (hv : Int32.ofInt d = v) (K : Run X n cls ini cc nL ret (pc + 1) lv (.int v :: st) h nc ns r) : Run X n cls ini cc nL ret pc lv st h nc ns r := r_step hd rfl rfl rfl (hv ▸ K)
theorem r_bipush {d : Int} {v : Int32} (hd : decode cc pc = .ok (.bipush d, 2)) (hv : (Int8.ofInt d).toInt32 = v) (K : Run X n cls ini cc nL ret (pc + 2) lv (.int v :: st) h nc ns r) : Run X n cls ini cc nL ret pc lv st h nc ns r := r_step hd rfl rfl rfl (hv ▸ K)
theorem r_sipush {d : Int} {v : Int32} (hd : decode cc pc = .ok (.sipush d, 3)) (hv : (Int16.ofInt d).toInt32 = v) (K : Run X n cls ini cc nL ret (pc + 3) lv (.int v :: st) h nc ns r) : Run X n cls ini cc nL ret pc lv st h nc ns r := r_step hd rfl rfl rfl (hv ▸ K)
theorem r_lconst {d : Fin 2} {v : Int64} (hd : decode cc pc = .ok (.lconst d, 1)) (hv : Int64.ofNat d.val = v) (K : Run X n cls ini cc nL ret (pc + 1) lv (.long v :: st) h nc ns r) : Run X n cls ini cc nL ret pc lv st h nc ns r := r_step hd rfl rfl rfl (hv ▸ K)
theorem r_iadd {x y : Int32} (hd : decode cc pc = .ok (.iadd, 1)) (K : Run X n cls ini cc nL ret (pc + 1) lv (.int (x + y) :: st) h nc ns r) : Run X n cls ini cc nL ret pc lv (.int y :: .int x :: st) h nc ns r := r_step hd rfl rfl (rfl) K
theorem r_isub {x y : Int32} (hd : decode cc pc = .ok (.isub, 1)) (K : Run X n cls ini cc nL ret (pc + 1) lv (.int (x - y) :: st) h nc ns r) : Run X n cls ini cc nL ret pc lv (.int y :: .int x :: st) h nc ns r := r_step hd rfl rfl (rfl) K
theorem r_imul {x y : Int32} (hd : decode cc pc = .ok (.imul, 1)) (K : Run X n cls ini cc nL ret (pc + 1) lv (.int (x * y) :: st) h nc ns r) : Run X n cls ini cc nL ret pc lv (.int y :: .int x :: st) h nc ns r := r_step hd rfl rfl (rfl) K
theorem r_iand {x y : Int32} (hd : decode cc pc = .ok (.iand, 1)) (K : Run X n cls ini cc nL ret (pc + 1) lv (.int (x &&& y) :: st) h nc ns r) : Run X n cls ini cc nL ret pc lv (.int y :: .int x :: st) h nc ns r := r_step hd rfl rfl (rfl) K
theorem r_ior {x y : Int32} (hd : decode cc pc = .ok (.ior, 1)) (K : Run X n cls ini cc nL ret (pc + 1) lv (.int (x ||| y) :: st) h nc ns r) : Run X n cls ini cc nL ret pc lv (.int y :: .int x :: st) h nc ns r := r_step hd rfl rfl (rfl) K
theorem r_ixor {x y : Int32} (hd : decode cc pc = .ok (.ixor, 1)) (K : Run X n cls ini cc nL ret (pc + 1) lv (.int (x ^^^ y) :: st) h nc ns r) : Run X n cls ini cc nL ret pc lv (.int y :: .int x :: st) h nc ns r := r_step hd rfl rfl (rfl) K
theorem r_ishl {x y : Int32} (hd : decode cc pc = .ok (.ishl, 1)) (K : Run X n cls ini cc nL ret (pc + 1) lv (.int (x <<< (y &&& 31)) :: st) h nc ns r) : Run X n cls ini cc nL ret pc lv (.int y :: .int x :: st) h nc ns r := r_step hd rfl rfl (rfl) K
theorem r_ishr {x y : Int32} (hd : decode cc pc = .ok (.ishr, 1)) (K : Run X n cls ini cc nL ret (pc + 1) lv (.int (x >>> (y &&& 31)) :: st) h nc ns r) : Run X n cls ini cc nL ret pc lv (.int y :: .int x :: st) h nc ns r := r_step hd rfl rfl (rfl) K
theorem r_iushr {x y : Int32} (hd : decode cc pc = .ok (.iushr, 1)) (K : Run X n cls ini cc nL ret (pc + 1) lv (.int ((x.toUInt32 >>> (y.toUInt32 &&& Int32.toUInt32 31)).toInt32) :: st) h nc ns r) : Run X n cls ini cc nL ret pc lv (.int y :: .int x :: st) h nc ns r := r_step hd rfl rfl (rfl) K
theorem r_idiv {x y : Int32} (hd : decode cc pc = .ok (.idiv, 1)) (hy : ¬ y = 0) (K : Run X n cls ini cc nL ret (pc + 1) lv (.int (x / y) :: st) h nc ns r) : Run X n cls ini cc nL ret pc lv (.int y :: .int x :: st) h nc ns r := r_step hd rfl rfl (by unfold pstep pII; dsimp only; rw [if_neg hy]; rfl) K
theorem r_irem {x y : Int32} (hd : decode cc pc = .ok (.irem, 1)) (hy : ¬ y = 0) (K : Run X n cls ini cc nL ret (pc + 1) lv (.int (x - x / y * y) :: st) h nc ns r) : Run X n cls ini cc nL ret pc lv (.int y :: .int x :: st) h nc ns r := r_step hd rfl rfl (by unfold pstep pII; dsimp only; rw [if_neg hy]; rfl) K
theorem r_ineg {x : Int32} (hd : decode cc pc = .ok (.ineg, 1)) (K : Run X n cls ini cc nL ret (pc + 1) lv (.int (-x) :: st) h nc ns r) : Run X n cls ini cc nL ret pc lv (.int x :: st) h nc ns r := r_step hd rfl rfl (rfl) K
theorem r_i2b {x : Int32} (hd : decode cc pc = .ok (.i2b, 1)) (K : Run X n cls ini cc nL ret (pc + 1) lv (.int x.toInt8.toInt32 :: st) h nc ns r) : Run X n cls ini cc nL ret pc lv (.int x :: st) h nc ns r := r_step hd rfl rfl (rfl) K
theorem r_i2c {x : Int32} (hd : decode cc pc = .ok (.i2c, 1)) (K : Run X n cls ini cc nL ret (pc + 1) lv (.int (x.toUInt32 % 65536).toInt32 :: st) h nc ns r) : Run X n cls ini cc nL ret pc lv (.int x :: st) h nc ns r := r_step hd rfl rfl (rfl) K
theorem r_i2l {x : Int32} (hd : decode cc pc = .ok (.i2l, 1)) (K : Run X n cls ini cc nL ret (pc + 1) lv (.long x.toInt64 :: st) h nc ns r) : Run X n cls ini cc nL ret pc lv (.int x :: st) h nc ns r := r_step hd rfl rfl (rfl) K
theorem r_l2i {x : Int64} (hd : decode cc pc = .ok (.l2i, 1)) (K : Run X n cls ini cc nL ret (pc + 1) lv (.int x.toInt32 :: st) h nc ns r) : Run X n cls ini cc nL ret pc lv (.long x :: st) h nc ns r := r_step hd rfl rfl (rfl) K
theorem r_ladd {x y : Int64} (hd : decode cc pc = .ok (.ladd, 1)) (K : Run X n cls ini cc nL ret (pc + 1) lv (.long (x + y) :: st) h nc ns r) : Run X n cls ini cc nL ret pc lv (.long y :: .long x :: st) h nc ns r := r_step hd rfl rfl (rfl) K
theorem r_land {x y : Int64} (hd : decode cc pc = .ok (.land, 1)) (K : Run X n cls ini cc nL ret (pc + 1) lv (.long (x &&& y) :: st) h nc ns r) : Run X n cls ini cc nL ret pc lv (.long y :: .long x :: st) h nc ns r := r_step hd rfl rfl (rfl) K
theorem r_lor {x y : Int64} (hd : decode cc pc = .ok (.lor, 1)) (K : Run X n cls ini cc nL ret (pc + 1) lv (.long (x ||| y) :: st) h nc ns r) : Run X n cls ini cc nL ret pc lv (.long y :: .long x :: st) h nc ns r := r_step hd rfl rfl (rfl) K
theorem r_lcmp {x y : Int64} (hd : decode cc pc = .ok (.lcmp, 1)) (K : Run X n cls ini cc nL ret (pc + 1) lv (.int (lg_cmp x y) :: st) h nc ns r) : Run X n cls ini cc nL ret pc lv (.long y :: .long x :: st) h nc ns r := r_step hd rfl rfl (rfl) K
theorem r_dup {v : Value} (hd : decode cc pc = .ok (.dup, 1)) (hv : v.category = 1) (K : Run X n cls ini cc nL ret (pc + 1) lv (v :: v :: st) h nc ns r) : Run X n cls ini cc nL ret pc lv (v :: st) h nc ns r := r_step hd rfl rfl (by unfold pstep; dsimp only; rw [if_pos hv]) K
theorem r_dup2 {v w : Value} (hd : decode cc pc = .ok (.dup2, 1)) (hv : v.category = 1) (hw : w.category = 1) (K : Run X n cls ini cc nL ret (pc + 1) lv (v :: w :: v :: w :: st) h nc ns r) : Run X n cls ini cc nL ret pc lv (v :: w :: st) h nc ns r := r_step hd rfl rfl (by unfold pstep; dsimp only; rw [if_pos ⟨hv, hw⟩]) K
theorem r_pop {v : Value} (hd : decode cc pc = .ok (.pop, 1)) (hv : v.category = 1) (K : Run X n cls ini cc nL ret (pc + 1) lv st h nc ns r) : Run X n cls ini cc nL ret pc lv (v :: st) h nc ns r := r_step hd rfl rfl (by unfold pstep; dsimp only; rw [if_pos hv]) K
theorem r_pop2 {v : Value} (hd : decode cc pc = .ok (.pop2, 1)) (hv : v.category = 2) (K : Run X n cls ini cc nL ret (pc + 1) lv st h nc ns r) : Run X n cls ini cc nL ret pc lv (v :: st) h nc ns r := r_step hd rfl rfl (by unfold pstep; dsimp only; rw [if_pos hv]) K
theorem r_goto {off : Int} {t : Nat} (hd : decode cc pc = .ok (.goto off, 3)) (ht : pJump pc off = some t) (K : Run X n cls ini cc nL ret t lv st h nc ns r) : Run X n cls ini cc nL ret pc lv st h nc ns r := r_step hd rfl rfl (by unfold pstep; dsimp only; rw [ht]; rfl) K
theorem r_ift {c : Jvm.ClassFile.Cond} {off : Int} {t : Nat} {x : Int32} (hd : decode cc pc = .ok (.ifCond c off, 3)) (ht : pJump pc off = some t) (hc : pCmp c x 0 = true) (K : Run X n cls ini cc nL ret t lv st h nc ns r) : Run X n cls ini cc nL ret pc lv (.int x :: st) h nc ns r := r_step hd rfl rfl (by unfold pstep; dsimp only; rw [ht, hc]; rfl) K
theorem r_icmpt {c : Jvm.ClassFile.Cond} {off : Int} {t : Nat} {x y : Int32} (hd : decode cc pc = .ok (.if_icmp c off, 3)) (ht : pJump pc off = some t) (hc : pCmp c x y = true) (K : Run X n cls ini cc nL ret t lv st h nc ns r) : Run X n cls ini cc nL ret pc lv (.int y :: .int x :: st) h nc ns r := r_step hd rfl rfl (by unfold pstep; dsimp only; rw [ht, hc]; rfl) K
theorem r_iff {c : Jvm.ClassFile.Cond} {off : Int} {t : Nat} {x : Int32} (hd : decode cc pc = .ok (.ifCond c off, 3)) (ht : pJump pc off = some t) (hc : pCmp c x 0 = false) (K : Run X n cls ini cc nL ret (pc + 3) lv st h nc ns r) : Run X n cls ini cc nL ret pc lv (.int x :: st) h nc ns r := r_step hd rfl rfl (by unfold pstep; dsimp only; rw [ht, hc]; rfl) K
theorem r_icmpf {c : Jvm.ClassFile.Cond} {off : Int} {t : Nat} {x y : Int32} (hd : decode cc pc = .ok (.if_icmp c off, 3)) (ht : pJump pc off = some t) (hc : pCmp c x y = false) (K : Run X n cls ini cc nL ret (pc + 3) lv st h nc ns r) : Run X n cls ini cc nL ret pc lv (.int y :: .int x :: st) h nc ns r := r_step hd rfl rfl (by unfold pstep; dsimp only; rw [ht, hc]; rfl) K
theorem r_table {dflt lo hi off : Int} {offs : Array Int} {len t : Nat} {x : Int32} (hd : decode cc pc = .ok (.tableswitch dflt lo hi offs, len)) (ho : pTable dflt lo hi offs x = some off) (ht : pJump pc off = some t) (K : Run X n cls ini cc nL ret t lv st h nc ns r) : Run X n cls ini cc nL ret pc lv (.int x :: st) h nc ns r := r_step hd rfl rfl (by unfold pstep; dsimp only; rw [ho]; dsimp only [Option.bind]; rw [ht]; rfl) K
theorem r_lookup {dflt off : Int} {ps : Array (Int × Int)} {len t : Nat} {x : Int32} (hd : decode cc pc = .ok (.lookupswitch dflt ps, len)) (ho : pLookup dflt ps x = some off) (ht : pJump pc off = some t) (K : Run X n cls ini cc nL ret t lv st h nc ns r) : Run X n cls ini cc nL ret pc lv (.int x :: st) h nc ns r := r_step hd rfl rfl (by unfold pstep; dsimp only; rw [ho]; dsimp only [Option.bind]; rw [ht]; rfl) K
theorem r_ldci {i P : Nat} {v : Int32} (hd : decode cc pc = .ok (.ldc i, 2)) (hs9 : pFind pSt cls i = none) (hq : pFind pKi cls i = some (v, P)) (K : Run X n cls ini cc nL ret (pc + 2) lv (.int v :: st) h nc ns r) : Run X n cls ini cc nL ret pc lv st h nc ns r := r_step hd rfl rfl (by unfold pstep pLdc; dsimp only; rw [hs9]; dsimp only; rw [hq]; rfl) K
theorem r_ldcs {i v P : Nat} (hd : decode cc pc = .ok (.ldc i, 2)) (hq : pFind pSt cls i = some (v, P)) (K : Run X n cls ini cc nL ret (pc + 2) lv (.ref v :: st) h nc ns r) : Run X n cls ini cc nL ret pc lv st h nc ns r := r_step hd rfl rfl (by unfold pstep pLdc; dsimp only; rw [hq]; rfl) K
theorem r_ldcw {i P : Nat} {v : Int32} (hd : decode cc pc = .ok (.ldc_w i, 3)) (hq : pFind pKi cls i = some (v, P)) (K : Run X n cls ini cc nL ret (pc + 3) lv (.int v :: st) h nc ns r) : Run X n cls ini cc nL ret pc lv st h nc ns r := r_step hd rfl rfl (by unfold pstep pLdcw; dsimp only; rw [hq]; rfl) K
theorem r_ldc2 {i P : Nat} {v : Int64} (hd : decode cc pc = .ok (.ldc2_w i, 3)) (hq : pFind pKl cls i = some (v, P)) (K : Run X n cls ini cc nL ret (pc + 3) lv (.long v :: st) h nc ns r) : Run X n cls ini cc nL ret pc lv st h nc ns r := r_step hd rfl rfl (by unfold pstep pLdc2; dsimp only; rw [hq]; rfl) K
theorem r_gets0 {i P : Nat} (hd : decode cc pc = .ok (.getstatic i, 3)) (hq : pFind pGs cls i = some (0, P)) (K : Run X n cls ini cc nL ret (pc + 3) lv (.int 1 :: st) h nc ns r) : Run X n cls ini cc nL ret pc lv st h nc ns r := r_step hd rfl rfl (by unfold pstep pGets; dsimp only; rw [hq]; rfl) K
theorem r_gets1 {i P : Nat} (hd : decode cc pc = .ok (.getstatic i, 3)) (hq : pFind pGs cls i = some (1, P)) (K : Run X n cls ini cc nL ret (pc + 3) lv (.ref 4 :: st) h nc ns r) : Run X n cls ini cc nL ret pc lv st h nc ns r := r_step hd rfl rfl (by unfold pstep pGets; dsimp only; rw [hq]; rfl) K
theorem pAt_ge {a : Nat} {x : pE} (q : pAt h a = some x) : ¬ a < 2 := fun z => (pAt_some q).1 (by omega)
theorem getI_some {a ci k : Nat} {x : Int32} (hg : getI h a ci k = some x) : ∃ fs, pAt h a = some (.inl (ci, fs)) ∧ fs[k]? = some (.int x) := by
  unfold getI at hg
  split at hg
  · rename_i cj fs hat
    split at hg
    · rename_i hc
      split at hg
      · rename_i y hy
        cases hg
        subst hc
        exact ⟨fs, hat, hy⟩
      · cases hg
    · cases hg
  · cases hg
theorem getR_some {a ci k x : Nat} (hg : getR h a ci k = some x) : ∃ fs, pAt h a = some (.inl (ci, fs)) ∧ fs[k]? = some (.ref x) := by
  unfold getR at hg
  split at hg
  · rename_i cj fs hat
    split at hg
    · rename_i hc
      split at hg
      · rename_i y hy
        cases hg
        subst hc
        exact ⟨fs, hat, hy⟩
      · cases hg
    · cases hg
  · cases hg
theorem putV_some {a ci k : Nat} {v : Value} {h' : pH} (hg : putV h a ci k v = some h') : ∃ fs, pAt h a = some (.inl (ci, fs)) ∧ k < fs.length ∧ h' = pPut h a (.inl (ci, fs.set k v)) := by
  unfold putV at hg
  split at hg
  · rename_i cj fs hat
    split at hg
    · rename_i hc
      cases hg
      obtain ⟨rfl, hk⟩ := hc
      exact ⟨fs, hat, hk, rfl⟩
    · cases hg
  · cases hg
theorem r_getI {i ci k ne P a : Nat} {x : Int32} (hd : decode cc pc = .ok (.getfield i, 3)) (hq : pFind pFl cls i = some (ci, k, ne, P)) (hg : getI h a ci k = some x) (K : Run X n cls ini cc nL ret (pc + 3) lv (.int x :: st) h nc ns r) : Run X n cls ini cc nL ret pc lv (.ref a :: st) h nc ns r := r_step hd rfl rfl (by obtain ⟨fs, h1, h2⟩ := getI_some hg; unfold pstep pGetf; dsimp only; rw [if_neg (pAt_ge h1), h1, hq]; dsimp only; rw [if_pos rfl, h2]; rfl) K
theorem r_getR {i ci k ne P a : Nat} {x : Nat} (hd : decode cc pc = .ok (.getfield i, 3)) (hq : pFind pFl cls i = some (ci, k, ne, P)) (hg : getR h a ci k = some x) (K : Run X n cls ini cc nL ret (pc + 3) lv (.ref x :: st) h nc ns r) : Run X n cls ini cc nL ret pc lv (.ref a :: st) h nc ns r := r_step hd rfl rfl (by obtain ⟨fs, h1, h2⟩ := getR_some hg; unfold pstep pGetf; dsimp only; rw [if_neg (pAt_ge h1), h1, hq]; dsimp only; rw [if_pos rfl, h2]; rfl) K
theorem r_putV {i ci k ne P a : Nat} {v : Value} {h' : pH} (hd : decode cc pc = .ok (.putfield i, 3)) (hq : pFind pFl cls i = some (ci, k, ne, P)) (hf : pFits ((pTys.getD ci tyX0) k) v = true) (hn : ((vwCl.getD ci ("", TX0, 0)).2.1 k).2.2.2 = false) (hg : putV h a ci k v = some h') (K : Run X n cls ini cc nL ret (pc + 3) lv st h' nc ns r) : Run X n cls ini cc nL ret pc lv (v :: .ref a :: st) h nc ns r := r_step hd rfl rfl (by obtain ⟨fs, h1, h2, rfl⟩ := putV_some hg; unfold pstep pPutf; dsimp only; rw [h1, hq]; dsimp only; rw [if_pos ⟨rfl, h2, hf, fun z => by rw [hn] at z; cases z⟩]; rfl) K
theorem r_putI {i ci k ne P a : Nat} {x : Int32} {h' : pH} (hd : decode cc pc = .ok (.putfield i, 3)) (hq : pFind pFl cls i = some (ci, k, ne, P)) (hf : (pTys.getD ci tyX0) k = .int) (hn : ((vwCl.getD ci ("", TX0, 0)).2.1 k).2.2.2 = false) (hg : putI h a ci k x = some h') (K : Run X n cls ini cc nL ret (pc + 3) lv st h' nc ns r) : Run X n cls ini cc nL ret pc lv (.int x :: .ref a :: st) h nc ns r := r_putV hd hq (by rw [hf]; rfl) hn hg K
theorem r_putZ {i ci k ne P a : Nat} {x : Int32} {h' : pH} (hd : decode cc pc = .ok (.putfield i, 3)) (hq : pFind pFl cls i = some (ci, k, ne, P)) (hf : (pTys.getD ci tyX0) k = .boolean) (hn : ((vwCl.getD ci ("", TX0, 0)).2.1 k).2.2.2 = false) (hg : putZ h a ci k x = some h') (K : Run X n cls ini cc nL ret (pc + 3) lv st h' nc ns r) : Run X n cls ini cc nL ret pc lv (.int x :: .ref a :: st) h nc ns r := by
  unfold putZ at hg
  split at hg
  · rename_i hx
    refine r_putV hd hq ?_ hn hg K
    rw [hf]
    rcases hx with hx | hx
    · subst hx; rfl
    · subst hx; rfl
  · cases hg
theorem r_putR {i ci k ne P a x : Nat} {t : FieldType} {h' : pH} (hd : decode cc pc = .ok (.putfield i, 3)) (hq : pFind pFl cls i = some (ci, k, ne, P)) (hf : (pTys.getD ci tyX0) k = .array t) (hn : ((vwCl.getD ci ("", TX0, 0)).2.1 k).2.2.2 = false) (hg : putR h a ci k x = some h') (K : Run X n cls ini cc nL ret (pc + 3) lv st h' nc ns r) : Run X n cls ini cc nL ret pc lv (.ref x :: .ref a :: st) h nc ns r := by
  unfold putR at hg
  split at hg
  · cases hg
  · rename_i hx
    refine r_putV hd hq ?_ hn hg K
    rw [hf]
    exact decide_eq_true hx
theorem r_getSv {i P a x : Nat} (hd : decode cc pc = .ok (.getfield i, 3)) (hq : pFind pFS cls i = some (0, P)) (hg : getSv a = some x) (K : Run X n cls ini cc nL ret (pc + 3) lv (.ref x :: st) h nc ns r) : Run X n cls ini cc nL ret pc lv (.ref a :: st) h nc ns r := r_step hd rfl rfl (by unfold getSv at hg; split at hg; (rename_i ha; cases hg; unfold pstep pGetf; dsimp only; rw [if_pos ha, hq]; rfl); cases hg) K
theorem r_getSc {i P a : Nat} {x : Int32} (hd : decode cc pc = .ok (.getfield i, 3)) (hq : pFind pFS cls i = some (1, P)) (hg : getSc a = some x) (K : Run X n cls ini cc nL ret (pc + 3) lv (.int x :: st) h nc ns r) : Run X n cls ini cc nL ret pc lv (.ref a :: st) h nc ns r := r_step hd rfl rfl (by unfold getSc at hg; split at hg; (rename_i ha; cases hg; unfold pstep pGetf; dsimp only; rw [if_pos ha, hq]; rfl); cases hg) K
theorem r_iald {a : Nat} {i x : Int32} (hd : decode cc pc = .ok (.iaload, 1)) (hg : ldI h a i = some x) (K : Run X n cls ini cc nL ret (pc + 1) lv (.int x :: st) h nc ns r) : Run X n cls ini cc nL ret pc lv (.int i :: .ref a :: st) h nc ns r := r_step hd rfl rfl (by
  unfold ldI at hg
  split at hg
  · rename_i n f hat
    split at hg
    · cases hg
    · rename_i hi
      cases hg
      unfold pstep pIald
      dsimp only
      rw [if_neg (fun z => (pAt_some hat).1 (by rw [z]; decide)), hat]
      show Option.map (fun s => (pc + 1, lv, s, h)) (if i < 0 ∨ n ≤ i.toNatClampNeg then none else some (Value.int (f i.toNatClampNeg) :: st)) = _
      rw [if_neg hi]
      rfl
  · cases hg) K
theorem r_sld {i x : Int32} (hd : decode cc pc = .ok (.iaload, 1)) (hg : ldS X i = some x) (K : Run X n cls ini cc nL ret (pc + 1) lv (.int x :: st) h nc ns r) : Run X n cls ini cc nL ret pc lv (.int i :: .ref 5 :: st) h nc ns r := r_step hd rfl rfl (by
  unfold ldS at hg
  split at hg
  · cases hg
  · rename_i hi
    cases hg
    unfold pstep pIald
    dsimp only
    rw [if_pos rfl, if_neg hi]
    rfl) K
theorem r_zald {a : Nat} {i x : Int32} (hd : decode cc pc = .ok (.baload, 1)) (hg : ldZ h a i = some x) (K : Run X n cls ini cc nL ret (pc + 1) lv (.int x :: st) h nc ns r) : Run X n cls ini cc nL ret pc lv (.int i :: .ref a :: st) h nc ns r := r_step hd rfl rfl (by
  unfold ldZ at hg
  split at hg
  · rename_i n f hat
    split at hg
    · cases hg
    · rename_i hi
      cases hg
      unfold pstep pBald
      dsimp only
      rw [if_neg (fun z => (pAt_some hat).1 (by rcases z with z | z <;> (rw [z]; decide))), hat]
      show Option.map (fun s => (pc + 1, lv, s, h)) (if i < 0 ∨ n ≤ i.toNatClampNeg then none else some (Value.int (f i.toNatClampNeg) :: st)) = _
      rw [if_neg hi]
      rfl
  · cases hg) K
theorem r_bald {a : Nat} {i x : Int32} (hd : decode cc pc = .ok (.baload, 1)) (hg : ldB a i = some x) (K : Run X n cls ini cc nL ret (pc + 1) lv (.int x :: st) h nc ns r) : Run X n cls ini cc nL ret pc lv (.int i :: .ref a :: st) h nc ns r := r_step hd rfl rfl (by
  unfold ldB at hg
  split at hg
  · rename_i ha
    split at hg
    · cases hg
    · rename_i hi
      cases hg
      unfold pstep pBald
      dsimp only
      rw [if_pos ha, if_neg hi]
      rfl
  · cases hg) K
theorem r_lald {a : Nat} {i : Int32} {x : Int64} (hd : decode cc pc = .ok (.laload, 1)) (hg : ldJ h a i = some x) (K : Run X n cls ini cc nL ret (pc + 1) lv (.long x :: st) h nc ns r) : Run X n cls ini cc nL ret pc lv (.int i :: .ref a :: st) h nc ns r := r_step hd rfl rfl (by
  unfold ldJ at hg
  split at hg
  · rename_i n f hat
    split at hg
    · cases hg
    · rename_i hi
      cases hg
      unfold pstep pLald
      dsimp only
      rw [hat]
      show Option.map (fun s => (pc + 1, lv, s, h)) (if i < 0 ∨ n ≤ i.toNatClampNeg then none else some (Value.long (f i.toNatClampNeg) :: st)) = _
      rw [if_neg hi]
      rfl
  · cases hg) K
theorem r_aald {a : Nat} {i : Int32} {x : Nat} (hd : decode cc pc = .ok (.aaload, 1)) (hg : ldA h a i = some x) (K : Run X n cls ini cc nL ret (pc + 1) lv (.ref x :: st) h nc ns r) : Run X n cls ini cc nL ret pc lv (.int i :: .ref a :: st) h nc ns r := r_step hd rfl rfl (by
  unfold ldA at hg
  split at hg
  · rename_i n f hat
    split at hg
    · cases hg
    · rename_i hi
      split at hg
      · rename_i b hb
        split at hg
        · cases hg
        · rename_i hb6
          cases hg
          unfold pstep pAald
          dsimp only
          rw [hat]
          show Option.map (fun s => (pc + 1, lv, s, h)) (if i < 0 ∨ n ≤ i.toNatClampNeg then none else (match f i.toNatClampNeg with | some b => if b < 6 then none else some (Value.ref b :: st) | none => none)) = _
          rw [if_neg hi, hb]
          (try dsimp only)
          rw [if_neg hb6]
          rfl
      · cases hg
  · cases hg) K
theorem r_iast {a : Nat} {i : Int32} {x : Int32} {h' : pH} (hd : decode cc pc = .ok (.iastore, 1)) (hg : stI h a i x = some h') (K : Run X n cls ini cc nL ret (pc + 1) lv st h' nc ns r) : Run X n cls ini cc nL ret pc lv (.int x :: .int i :: .ref a :: st) h nc ns r := r_step hd rfl rfl (by
  unfold stI at hg
  split at hg
  · rename_i n f hat
    split at hg
    · cases hg
    · rename_i hi
      cases hg
      unfold pstep pIast
      dsimp only
      rw [hat]
      show Option.map (fun q => (pc + 1, lv, q.1, q.2)) (if i < 0 ∨ n ≤ i.toNatClampNeg then none else some (st, pPut h a (.inr (0, n, .inl (upd f i.toNatClampNeg x))))) = _
      rw [if_neg hi]
      rfl
  · cases hg) K
theorem r_zast {a : Nat} {i : Int32} {x : Int32} {h' : pH} (hd : decode cc pc = .ok (.bastore, 1)) (hg : stZ h a i x = some h') (K : Run X n cls ini cc nL ret (pc + 1) lv st h' nc ns r) : Run X n cls ini cc nL ret pc lv (.int x :: .int i :: .ref a :: st) h nc ns r := r_step hd rfl rfl (by
  unfold stZ at hg
  split at hg
  · rename_i n f hat
    split at hg
    · cases hg
    · rename_i hi
      cases hg
      unfold pstep pBast
      dsimp only
      rw [hat]
      show Option.map (fun q => (pc + 1, lv, q.1, q.2)) (if i < 0 ∨ n ≤ i.toNatClampNeg then none else some (st, pPut h a (.inr (2, n, .inl (upd f i.toNatClampNeg (vp_nar .boolean x)))))) = _
      rw [if_neg hi]
      rfl
  · cases hg) K
theorem r_last {a : Nat} {i : Int32} {x : Int64} {h' : pH} (hd : decode cc pc = .ok (.lastore, 1)) (hg : stJ h a i x = some h') (K : Run X n cls ini cc nL ret (pc + 1) lv st h' nc ns r) : Run X n cls ini cc nL ret pc lv (.long x :: .int i :: .ref a :: st) h nc ns r := r_step hd rfl rfl (by
  unfold stJ at hg
  split at hg
  · rename_i n f hat
    split at hg
    · cases hg
    · rename_i hi
      cases hg
      unfold pstep pLast
      dsimp only
      rw [hat]
      show Option.map (fun q => (pc + 1, lv, q.1, q.2)) (if i < 0 ∨ n ≤ i.toNatClampNeg then none else some (st, pPut h a (.inr (1, n, .inr (.inl (vp_updL f i.toNatClampNeg x)))))) = _
      rw [if_neg hi]
      rfl
  · cases hg) K
theorem r_alen {a : Nat} {x : Int32} (hd : decode cc pc = .ok (.arraylength, 1)) (hg : lenA h a = some x) (K : Run X n cls ini cc nL ret (pc + 1) lv (.int x :: st) h nc ns r) : Run X n cls ini cc nL ret pc lv (.ref a :: st) h nc ns r := r_step hd rfl rfl (by
  unfold lenA at hg
  split at hg
  · rename_i t n f hat
    split at hg
    · rename_i ht
      cases hg
      unfold pstep pAlen
      dsimp only
      rw [if_neg (fun z => (pAt_some hat).1 (by rw [z]; decide)), if_neg (fun z => (pAt_some hat).1 (by rcases z with z | z <;> (rw [z]; decide))), hat]
      show Option.map (fun s => (pc + 1, lv, s, h)) (if t < 4 then some (Value.int (Int32.ofNat n) :: st) else none) = _
      rw [if_pos ht]
      rfl
    · cases hg
  · cases hg) K
theorem r_blen {a : Nat} {x : Int32} (hd : decode cc pc = .ok (.arraylength, 1)) (hg : lenB a = some x) (K : Run X n cls ini cc nL ret (pc + 1) lv (.int x :: st) h nc ns r) : Run X n cls ini cc nL ret pc lv (.ref a :: st) h nc ns r := r_step hd rfl rfl (by
  unfold lenB at hg
  split at hg
  · rename_i ha
    cases hg
    unfold pstep pAlen
    dsimp only
    rw [if_neg (fun z => by rcases ha with ha | ha <;> (rw [ha] at z; cases z)), if_pos ha]
    rfl
  · cases hg) K
theorem r_slen (hd : decode cc pc = .ok (.arraylength, 1)) (K : Run X n cls ini cc nL ret (pc + 1) lv (.int (Int32.ofNat X.1) :: st) h nc ns r) : Run X n cls ini cc nL ret pc lv (.ref 5 :: st) h nc ns r := r_step hd rfl rfl rfl K
theorem r_iret {v : Int32} {ty : FieldType} (hd : decode cc pc = .ok (.ireturn, 1)) (hr : ret = some ty) (hv : pRet ty v = true) : Run X n cls ini cc nL ret pc lv [.int v] h nc ns (some (.int v), h, nc, ns) := r_ret hd rfl (by subst hr; unfold pret; dsimp only; rw [if_pos hv])
theorem r_lret {v : Int64} (hd : decode cc pc = .ok (.lreturn, 1)) (hr : ret = some .long) : Run X n cls ini cc nL ret pc lv [.long v] h nc ns (some (.long v), h, nc, ns) := r_ret hd rfl (by subst hr; rfl)
theorem r_aret {a : Nat} {ty : FieldType} (hd : decode cc pc = .ok (.areturn, 1)) (hr : ret = some (.array ty)) (ha : ¬ a < 6) : Run X n cls ini cc nL ret pc lv [.ref a] h nc ns (some (.ref a), h, nc, ns) := r_ret hd rfl (by subst hr; unfold pret; dsimp only; rw [if_neg ha])
theorem r_vret (hd : decode cc pc = .ok (.return_, 1)) (hr : ret = none) : Run X n cls ini cc nL ret pc lv [] h nc ns (none, h, nc, ns) := r_ret hd rfl (by subst hr; rfl)
end RRW
/-- a method's run from its entry -/
theorem Calls.of {X : pX} {n mn : Nat} {as : List Value} {h : pH} {r : pR} {M : pMr × Nat × Nat × Nat × Nat} (hM : pMq[mn]? = some M) (hl : (lg_sl as).length ≤ M.1.2.2.1) (K : Run X n M.1.2.1 (decide (M.1.2.2.2.2.2 = 2)) (pCd M.2.1) M.1.2.2.1 M.1.2.2.2.1 0 (lv_args 0 as) [] h 0 0 r) : Calls X n mn as h r := by
  obtain ⟨K0, hK⟩ := K
  refine ⟨K0, fun K h1 => ?_⟩
  rw [pcall_eq]
  unfold pbody
  rw [hM]
  dsimp only
  rw [if_pos hl]
  exact hK K h1 K h1
/-- decode rows, a method at a time -/
def dChk (c : ByteArray) (l : List (Nat × Instr × Nat)) : Bool := l.all (fun e => decide (decode c e.1 = .ok e.2))
theorem dGet {c : ByteArray} {l : List (Nat × Instr × Nat)} (h : dChk c l = true) {j pc : Nat} {i : Instr} {len : Nat} (hj : l[j]? = some (pc, i, len)) : decode c pc = .ok (i, len) :=
  by
  have h1 := List.all_eq_true.mp h _ (List.mem_of_getElem? hj)
  exact of_decide_eq_true h1
