/-! ===== THE REFERENCE'S TYPER: all rows of statements ===== -/
theorem tyW_no3 {S : Tks} {P : Pgm} {y : Nat} (h : tyW S y) : P.rt y ≠ 3 := by
  unfold Pgm.rt
  rcases h with h | ⟨h, _⟩
  · rw [if_pos (by omega)]; omega
  · rw [if_neg (by omega)]
    cases P.fnd (P.1 (y - 4)) with
    | none => show 5 ≠ 3; omega
    | some c => show 10 + c ≠ 3; omega
theorem lnk.ch {A : Nat → Nat → Prop} {h h' : pH} {o : Option Nat} {x : Int32} (q : lnk h o x) (g : Chg A h h') (hA : ∀ k, ¬ A 161 k) : lnk h' o x := by
  cases o with
  | none => trivial
  | some o =>
    show rd h' 161 o = x
    rw [g.2.2.1 _ _ (hA o)]
    exact q
theorem ts161 {d s s' n n' : Nat} (k : Nat) : ¬ tsA d s s' n n' 161 k := by unfold tsA ndA; omega
theorem ts151 {d s s' n n' a k : Nat} (h1 : 151 ≤ a) (h2 : a ≤ 161) (h3 : k < s ∨ (a ≠ 156 ∧ a ≠ 158)) : ¬ tsA d s s' n n' a k := by unfold tsA ndA; omega
theorem RunR.zero {S : Tks} {P : Pgm} {D : List Int32 → Prop} {num : List Int32 → Nat} {c mth N : Nat} : RunR P D num c (P.mty mth) mth N nl := by
  intro E o s n l d j f hd h q pl rb b1 b2 b3 b4 b5 b6
  exact ⟨h, blk_end (k := f) q.1.1.1.1, Chg.refl _ _, q, rb⟩
theorem RunR.tell {S : Tks} {P : Pgm} {D : List Int32 → Prop} {num : List Int32 → Nat} {c mth N : Nat} (hN : 5000 ≤ N) (ha : Acy P) (hc : c < P.n) (p3 : P.P3) (hmm : mth < P.ms.length) {p y w m : Nat} {r : Tr} (hy : tyW S y) (gr : GK S m r) (R : RunR P D num c (P.mty mth) mth N r) : RunR P D num c (P.mty mth) mth N (bTell p y w r) := by
  intro E o s n l d j f hd h q pl rb b1 b2 b3 b4 b5 b6
  obtain ⟨e1, e2, e3⟩ := sz_tell p y w r
  have hnv : nv (bTell p y w r) = 1 + nv r := rfl
  have hdp : dp (bTell p y w r) = dp r := rfl
  rw [e1] at b1
  rw [e2] at b2
  rw [e3] at b3
  rw [hdp] at b4 b6
  rw [hnv] at b5
  have hfs : fsB (bTell p y w r) s = Int32.ofNat s := by unfold fsB; rw [e1, if_neg (by omega)]
  obtain ⟨j, rfl⟩ : ∃ j', j = j' + 1 := ⟨j - 1, by omega⟩
  have hml := q.1.1.1.2.2.2.2.2.2.2.2.2.2.1
  rw [hfs, e1, e2]
  obtain ⟨l1, l2⟩ : p ≤ 3000 ∧ PlB r := pl
  rw [RBn_tell] at rb
  obtain ⟨r1, r2, r3, r4, r5⟩ := rb
  have A := one_tell (rc := gX12_checkWhile N j) (N := N) (S := S) (l := l) (d0 := d) (d := Int32.ofNat d) hN q (by omega) r2 (tyW_no3 hy) r3 r4 (by omega)
  have B := RunR.seq (S := S) (hd := hd) (f := f) (s1 := s + 1) (n1 := n) (l1 := l) (Z2 := fun _ h' => RTc P num c (P.mty mth) h' (bTell p y w r) E o s n l) (fun q hq => by have := (oS_inl hq).1; omega) gr l2 R q A r5 (by omega) (Nat.le_refl _) (by omega) (by omega) (by omega) b4 (fun E' hE => by
    obtain ⟨rfl, _⟩ := Pgm.tlX_some (oS_inr hE)
    exact ⟨by rw [EnvV.add_len]; omega, Pfx.add _ _ _ _⟩) (by omega) (fun E' E2 h1 h2 hE z g1 g2 tc => by
    obtain ⟨rfl, _⟩ := Pgm.tlX_some (oS_inr hE)
    have k : ∀ a, 151 ≤ a → a ≤ 161 → a ≠ 156 → a ≠ 158 → rd h2 a s = rd h a s := fun a i1 i2 i3 i4 => by rw [g2.2.2.1 _ _ (ts151 i1 i2 (Or.inl (by omega))), g1.2.2.1 _ _ (ts151 i1 i2 (Or.inr ⟨i3, i4⟩))]
    rw [RTc_tell]
    exact ⟨(r1.ch g1 ts161).ch g2 ts161, ⟨by rw [k _ (by omega) (by omega) (by omega) (by omega)]; exact r2.1, by rw [k _ (by omega) (by omega) (by omega) (by omega)]; exact r2.2.2.2, by rw [g2.2.2.1 _ _ (ts151 (by omega) (by omega) (Or.inl (by omega)))]; exact z⟩, tc⟩)
  rw [show f + 1 + (1 + stB r) = f + 1 + stB r + 1 by omega, show s + (1 + stB r) = s + 1 + stB r by omega]
  exact B
theorem RunR.tellv {S : Tks} {P : Pgm} {D : List Int32 → Prop} {num : List Int32 → Nat} {c mth N : Nat} (hN : 5000 ≤ N) (ha : Acy P) (hc : c < P.n) (p3 : P.P3) (hmm : mth < P.ms.length) {p y w m : Nat} {x r : Tr} (hy : tyW S y) (ox : Ox S x) (gr : GK S m r) (R : RunR P D num c (P.mty mth) mth N r) : RunR P D num c (P.mty mth) mth N (bTellv p y w x r) := by
  intro E o s n l d j f hd h q pl rb b1 b2 b3 b4 b5 b6
  obtain ⟨e1, e2, e3⟩ := sz_tellv p y w x r
  have hnv : nv (bTellv p y w x r) = 1 + nv r := rfl
  have hdp : dp (bTellv p y w x r) = dp r := rfl
  rw [e1] at b1
  rw [e2] at b2
  rw [e3] at b3
  rw [hdp] at b4 b6
  rw [hnv] at b5
  have hfs : fsB (bTellv p y w x r) s = Int32.ofNat s := by unfold fsB; rw [e1, if_neg (by omega)]
  obtain ⟨j, rfl⟩ : ∃ j', j = j' + 1 := ⟨j - 1, by omega⟩
  have hml := q.1.1.1.2.2.2.2.2.2.2.2.2.2.1
  rw [hfs, e1, e2]
  obtain ⟨l1, l2⟩ : p ≤ 3000 ∧ PlB r := pl
  rw [RBn_tellv] at rb
  obtain ⟨r1, r2, r3, r4, r0, r5⟩ := rb
  have A := one_tellv (S := S) (rc := gX12_checkWhile N j) (N := N) (d0 := d) (d := Int32.ofNat d) hN ha hc p3 ox q r0 (by omega) (by omega) (by omega) r2 (tyW_no3 hy) r3 r4 (by omega)
  have B := RunR.seq (S := S) (hd := hd) (f := f) (s1 := s + 1) (n1 := n + sz x) (l1 := l + ls x) (Z2 := fun _ h' => RTc P num c (P.mty mth) h' (bTellv p y w x r) E o s n l) (fun q hq => by have := (oS_inl hq).1; omega) gr l2 R q A r5 (by omega) (by omega) (by omega) (by omega) (by omega) b4 (fun E' hE => by
    obtain ⟨t, _, _, hE⟩ := Pgm.tvE_some (oS_inr hE)
    obtain ⟨rfl, _⟩ := Pgm.tlX_some hE
    exact ⟨by rw [EnvV.add_len]; omega, Pfx.add _ _ _ _⟩) (by omega) (fun E' E2 h1 h2 hE z g1 g2 tc => by
    obtain ⟨t, _, _, hE⟩ := Pgm.tvE_some (oS_inr hE)
    obtain ⟨rfl, _⟩ := Pgm.tlX_some hE
    have k : ∀ a, 151 ≤ a → a ≤ 161 → a ≠ 156 → a ≠ 158 → rd h2 a s = rd h a s := fun a i1 i2 i3 i4 => by rw [g2.2.2.1 _ _ (ts151 i1 i2 (Or.inl (by omega))), g1.2.2.1 _ _ (ts151 i1 i2 (Or.inr ⟨i3, i4⟩))]
    rw [RTc_tellv]
    exact ⟨(r1.ch g1 ts161).ch g2 ts161, ⟨by rw [k _ (by omega) (by omega) (by omega) (by omega)]; exact r2.1, by rw [k _ (by omega) (by omega) (by omega) (by omega)]; exact r2.2.2.2, by rw [g2.2.2.1 _ _ (ts151 (by omega) (by omega) (Or.inl (by omega)))]; exact z.1⟩, (AgT.of g2 (s := 0) (s' := 0) (n := n) (n' := n + sz x) (l := 0) (l' := 0) (Or.inl (by omega)) (Or.inl (Nat.le_refl _))).rx (Nat.le_refl _) (Nat.le_refl _) z.2, tc⟩)
  rw [show f + 1 + (1 + stB r) = f + 1 + stB r + 1 by omega, show s + (1 + stB r) = s + 1 + stB r by omega, show n + (sz x + szB r) = n + sz x + szB r by omega]
  exact B
theorem RunR.work {S : Tks} {P : Pgm} {D : List Int32 → Prop} {num : List Int32 → Nat} {c mth N : Nat} (hN : 5000 ≤ N) (ha : Acy P) (hc : c < P.n) (p3 : P.P3) (hmm : mth < P.ms.length) {p k m : Nat} {x r : Tr} (hk : (k = 40 ∧ x = nl) ∨ ((k = 41 ∨ k = 42 ∨ k = 43 ∨ (k = 52 ∧ isCallE x = true)) ∧ Ox S x)) (gr : GK S m r) (R : RunR P D num c (P.mty mth) mth N r) : RunR P D num c (P.mty mth) mth N (nd k p 0 x r) := by
  intro E o s n l d j f hd h q pl rb b1 b2 b3 b4 b5 b6
  obtain ⟨e1, e2, e3⟩ := sz_k (GKk hk) p x r
  obtain ⟨hnv, hdp⟩ := nv_k (GKk hk) p x r
  rw [e1] at b1
  rw [e2] at b2
  rw [e3] at b3
  rw [hdp] at b4 b6
  rw [hnv] at b5
  have hfs : fsB (nd k p 0 x r) s = Int32.ofNat s := by unfold fsB; rw [e1, if_neg (by omega)]
  obtain ⟨j, rfl⟩ : ∃ j', j = j' + 1 := ⟨j - 1, by omega⟩
  have hml := q.1.1.1.2.2.2.2.2.2.2.2.2.2.1
  rw [hfs, e1, e2]
  rw [PlB_k (GKk hk)] at pl
  obtain ⟨l1, l2⟩ := pl
  rw [RBn_k (GKk hk)] at rb
  obtain ⟨r1, r2, r0, r5⟩ := rb
  obtain ⟨mt1, mt2⟩ := q.1.1.type hmm
  have A := one_work (S := S) (rc := gX12_checkWhile N j) (N := N) (d0 := d) (d := Int32.ofNat d) hN ha hc p3 (by omega) mt1 mt2 hk q r0 (by omega) (by omega) (by omega) r2
  have hzx : ∀ t, P.te c E x = some [t] → 1 ≤ sz x := by
    intro t ht
    rcases hk with ⟨rfl, rfl⟩ | ⟨_, ox⟩
    · cases ht
    · exact ox.sz1
  have B := RunR.seq (S := S) (hd := hd) (f := f) (s1 := s + 1) (n1 := n + sz x) (l1 := l + ls x) (Z2 := fun _ h' => RTc P num c (P.mty mth) h' (nd k p 0 x r) E o s n l) (fun q hq => by have := (oS_inl hq).1; omega) gr l2 R q A r5 (by omega) (by omega) (by omega) (by omega) (by omega) b4 (fun E' hE => by
    have h3 := (Pgm.wkE_some (oS_inr hE)).1
    exact ⟨by rw [h3]; exact b5, Pfx.same h3⟩) (by omega) (fun E' E2 h1 h2 hE z g1 g2 tc => by
    have k' : ∀ a, 151 ≤ a → a ≤ 161 → a ≠ 156 → a ≠ 158 → rd h2 a s = rd h a s := fun a i1 i2 i3 i4 => by rw [g2.2.2.1 _ _ (ts151 i1 i2 (Or.inl (by omega))), g1.2.2.1 _ _ (ts151 i1 i2 (Or.inr ⟨i3, i4⟩))]
    have ag := AgT.of g2 (s := 0) (s' := 0) (n := n) (n' := n + sz x) (l := 0) (l' := 0) (Or.inl (by omega)) (Or.inl (Nat.le_refl _))
    rw [RTc_k (GKk hk)]
    refine ⟨(r1.ch g1 ts161).ch g2 ts161, ⟨by rw [k' _ (by omega) (by omega) (by omega) (by omega)]; exact r2.1, by rw [k' _ (by omega) (by omega) (by omega) (by omega)]; exact r2.2.2.2⟩, ag.rx (Nat.le_refl _) (Nat.le_refl _) z.1, fun t ht => ?_, fun E3 hE3 => ?_⟩
    · have := hzx t ht
      rw [ag.2.2.1 _ _ (by omega) (by omega) (by omega)]
      exact z.2 t ht
    · rw [oS_inr hE] at hE3
      obtain rfl := Option.some.inj hE3
      exact tc)
  rw [show f + 1 + (1 + stB r) = f + 1 + stB r + 1 by omega, show s + (1 + stB r) = s + 1 + stB r by omega, show n + (sz x + szB r) = n + sz x + szB r by omega, Pgm.chk_k (GKk hk)]
  exact B
theorem RunR.give {S : Tks} {P : Pgm} {D : List Int32 → Prop} {num : List Int32 → Nat} {c mth N : Nat} (hN : 5000 ≤ N) (ha : Acy P) (hc : c < P.n) (p3 : P.P3) (hmm : mth < P.ms.length) {p m : Nat} {x y r : Tr} (hp : isPlaceE x = true) (ox : Ox S x) (oy : Ox S y) (gr : GK S m r) (R : RunR P D num c (P.mty mth) mth N r) : RunR P D num c (P.mty mth) mth N (bGive p x y r) := by
  intro E o s n l d j f hd h q pl rb b1 b2 b3 b4 b5 b6
  obtain ⟨e1, e2, e3⟩ := sz_give p x y r
  have hnv : nv (bGive p x y r) = nv r := rfl
  have hdp : dp (bGive p x y r) = dp r := rfl
  rw [e1] at b1
  rw [e2] at b2
  rw [e3] at b3
  rw [hdp] at b4 b6
  rw [hnv] at b5
  have hfs : fsB (bGive p x y r) s = Int32.ofNat s := by unfold fsB; rw [e1, if_neg (by omega)]
  obtain ⟨j, rfl⟩ : ∃ j', j = j' + 1 := ⟨j - 1, by omega⟩
  have hml := q.1.1.1.2.2.2.2.2.2.2.2.2.2.1
  rw [hfs, e1, e2]
  obtain ⟨l1, l2⟩ : p ≤ 3000 ∧ PlB r := pl
  rw [RBn_give] at rb
  obtain ⟨r1, r2, r3, r4, r0, r5⟩ := rb
  have A := one_give (S := S) (rc := gX12_checkWhile N j) (N := N) (d0 := d) (d := Int32.ofNat d) hN ha hc p3 ox hp oy q r4 r0 (by omega) (by omega) (by omega) r2 r3
  have B := RunR.seq (S := S) (hd := hd) (f := f) (s1 := s + 1) (n1 := n + sz x + sz y) (l1 := l + ls x + ls y) (Z2 := fun _ h' => RTc P num c (P.mty mth) h' (bGive p x y r) E o s n l) (fun q hq => by have := (oS_inl hq).1; omega) gr l2 R q A r5 (by omega) (by omega) (by omega) (by omega) (by omega) b4 (fun E' hE => by
    obtain ⟨lx, t, _, _, hg⟩ := Pgm.gvE_some (oS_inr hE)
    have h3 := (Pgm.gvX_some hg).1
    exact ⟨by rw [h3]; exact b5, Pfx.same h3⟩) (by omega) (fun E' E2 h1 h2 hE z g1 g2 tc => by
    have k : ∀ a, 151 ≤ a → a ≤ 161 → a ≠ 156 → a ≠ 158 → rd h2 a s = rd h a s := fun a i1 i2 i3 i4 => by rw [g2.2.2.1 _ _ (ts151 i1 i2 (Or.inl (by omega))), g1.2.2.1 _ _ (ts151 i1 i2 (Or.inr ⟨i3, i4⟩))]
    have ag := AgT.of g2 (s := 0) (s' := 0) (n := n) (n' := n + sz x + sz y) (l := 0) (l' := 0) (Or.inl (by omega)) (Or.inl (Nat.le_refl _))
    rw [RTc_give]
    refine ⟨(r1.ch g1 ts161).ch g2 ts161, ⟨by rw [k _ (by omega) (by omega) (by omega) (by omega)]; exact r2.1, by rw [k _ (by omega) (by omega) (by omega) (by omega)]; exact r2.2.2.2, by rw [k _ (by omega) (by omega) (by omega) (by omega)]; exact r3⟩, ag.rx (Nat.le_refl _) (by omega) z.1, ag.rx (by omega) (Nat.le_refl _) z.2, fun E3 hE3 => ?_⟩
    rw [oS_inr hE] at hE3
    obtain rfl := Option.some.inj hE3
    exact tc)
  rw [show f + 1 + (1 + stB r) = f + 1 + stB r + 1 by omega, show s + (1 + stB r) = s + 1 + stB r by omega, show n + (sz x + (sz y + szB r)) = n + sz x + sz y + szB r by omega]
  exact B
theorem RunR.whil {S : Tks} {P : Pgm} {D : List Int32 → Prop} {num : List Int32 → Nat} {c mth N : Nat} (hN : 5000 ≤ N) (ha : Acy P) (hc : c < P.n) (p3 : P.P3) (hmm : mth < P.ms.length) {p m : Nat} {x a r : Tr} (ox : Ox S x) (ga : GK S m a) (gr : GK S m r) (Ra : RunR P D num c (P.mty mth) mth N a) (R : RunR P D num c (P.mty mth) mth N r) : RunR P D num c (P.mty mth) mth N (bWhil p x a r) := by
  intro E o s n l d j f hd h q pl rb b1 b2 b3 b4 b5 b6
  obtain ⟨e1, e2, e3⟩ := sz_whil p x a r
  have hnv : nv (bWhil p x a r) = nv a + nv r := rfl
  have hdp : dp (bWhil p x a r) = max (dp a + 1) (dp r) := rfl
  rw [e1] at b1
  rw [e2] at b2
  rw [e3] at b3
  rw [hdp] at b4 b6
  rw [hnv] at b5
  have hfs : fsB (bWhil p x a r) s = Int32.ofNat s := by unfold fsB; rw [e1, if_neg (by omega)]
  obtain ⟨j, rfl⟩ : ∃ j', j = j' + 1 := ⟨j - 1, by omega⟩
  have hml := q.1.1.1.2.2.2.2.2.2.2.2.2.2.1
  rw [hfs, e1, e2]
  obtain ⟨l1, l0, l2⟩ : p ≤ 3000 ∧ PlB a ∧ PlB r := pl
  obtain ⟨j, rfl⟩ : ∃ j', j = j' + 1 + 1 := ⟨j - 2, by omega⟩
  rw [RBn_whil] at rb
  obtain ⟨r1, r2, r3, r4, r0, r5⟩ := rb
  have A := one_while (S := S) (N := N) (d := d) (j := j) hN ha hc p3 ox ga l0 Ra q r3 r0 r2 r4 (by omega) (by omega) (by omega) (by omega) (by omega) (by omega)
  have B := RunR.seq (S := S) (hd := hd) (f := f + stB a) (s1 := s + 1 + stB a) (n1 := n + sz x + szB a) (l1 := l + ls x + lsB a) (Z2 := fun _ h' => RTc P num c (P.mty mth) h' (bWhil p x a r) E o s n l) (fun q hq => by
    rcases sB_inl hq with hq | ⟨_, _, hq⟩
    · have := (oS_inl hq).1; omega
    · rcases sB_inl hq with hq | ⟨_, _, hq⟩
      · have := Pgm.chk_place m a E q ga l0 hq; omega
      · cases hq) gr l2 R q A r5 (by omega) (by omega) (by omega) (by omega) (by omega) (by omega) (fun E' hE => by
    obtain ⟨_, _, hE⟩ := sB_inr hE
    obtain ⟨_, _, hE⟩ := sB_inr hE
    injection hE with hE
    rw [← hE]
    exact ⟨by omega, Pfx.refl _⟩) (by omega) (fun E' E2 h1 h2 hE z g1 g2 tc => by
    obtain ⟨_, _, hE⟩ := sB_inr hE
    obtain ⟨_, _, hE⟩ := sB_inr hE
    injection hE with hE
    rw [← hE] at tc
    have k : ∀ a, 151 ≤ a → a ≤ 161 → a ≠ 156 → a ≠ 158 → rd h2 a s = rd h a s := fun a i1 i2 i3 i4 => by rw [g2.2.2.1 _ _ (ts151 i1 i2 (Or.inl (by omega))), g1.2.2.1 _ _ (ts151 i1 i2 (Or.inr ⟨i3, i4⟩))]
    have ag := AgT.of g2 (s := s + 1) (s' := s + 1 + stB a) (n := n) (n' := n + sz x + szB a) (l := 0) (l' := 0) (Or.inl (by omega)) (Or.inl (Nat.le_refl _))
    rw [RTc_whil]
    exact ⟨(r1.ch g1 ts161).ch g2 ts161, ⟨by rw [k _ (by omega) (by omega) (by omega) (by omega)]; exact r2.1, by rw [k _ (by omega) (by omega) (by omega) (by omega)]; exact r2.2.2.2⟩, ag.rx (Nat.le_refl _) (by omega) z.1, by rw [k _ (by omega) (by omega) (by omega) (by omega)]; exact r4, RTc.ag m a E none _ _ _ ga z.2 (ag.sub (Nat.le_refl _) (Nat.le_refl _) (by omega) (Nat.le_refl _)), tc⟩)
  have hchk : P.chk c (P.mty mth) (bWhil p x a r) E = sB (sB (oS p (P.bcE c E x)) fun _ => sB (P.chk c (P.mty mth) a E) fun _ => .inr E) (P.chk c (P.mty mth) r) := by
    rw [Pgm.chk_whil]
    cases P.bcE c E x with
    | none => rfl
    | some E0 =>
      show (sB (P.chk c (P.mty mth) a E) fun _ => P.chk c (P.mty mth) r E) = sB (sB (P.chk c (P.mty mth) a E) fun _ => .inr E) _
      cases P.chk c (P.mty mth) a E <;> rfl
  rw [show f + 1 + (1 + stB a + stB r) = f + stB a + 1 + stB r + 1 by omega, show s + (1 + stB a + stB r) = s + 1 + stB a + stB r by omega, show n + (sz x + szB a + szB r) = n + sz x + szB a + szB r by omega, hchk]
  exact B
theorem RunR.ite {S : Tks} {P : Pgm} {D : List Int32 → Prop} {num : List Int32 → Nat} {c mth N : Nat} (hN : 5000 ≤ N) (ha : Acy P) (hc : c < P.n) (p3 : P.P3) (hmm : mth < P.ms.length) {p m ff : Nat} {x a b r : Tr} (hff : ff = 1 ∨ (ff = 0 ∧ b = nl)) (ox : Ox S x) (ga : GK S m a) (gb : GK S m b) (gr : GK S m r) (Ra : RunR P D num c (P.mty mth) mth N a) (Rb : RunR P D num c (P.mty mth) mth N b) (R : RunR P D num c (P.mty mth) mth N r) : RunR P D num c (P.mty mth) mth N (bIte p x a ff b r) := by
  intro E o s n l d j f hd h q pl rb b1 b2 b3 b4 b5 b6
  obtain ⟨e1, e2, e3⟩ := sz_ite p x a ff b r
  have hnv : nv (bIte p x a ff b r) = nv a + nv b + nv r := rfl
  have hdp : dp (bIte p x a ff b r) = max (max (dp a) (dp b) + 1) (dp r) := rfl
  rw [e1] at b1
  rw [e2] at b2
  rw [e3] at b3
  rw [hdp] at b4 b6
  rw [hnv] at b5
  have hfs : fsB (bIte p x a ff b r) s = Int32.ofNat s := by unfold fsB; rw [e1, if_neg (by omega)]
  obtain ⟨j, rfl⟩ : ∃ j', j = j' + 1 := ⟨j - 1, by omega⟩
  have hml := q.1.1.1.2.2.2.2.2.2.2.2.2.2.1
  rw [hfs, e1, e2]
  obtain ⟨l1, l0, lb, l2⟩ : p ≤ 3000 ∧ PlB a ∧ PlB b ∧ PlB r := pl
  obtain ⟨j, rfl⟩ : ∃ j', j = j' + 1 + 1 := ⟨j - 2, by omega⟩
  rw [RBn_ite] at rb
  obtain ⟨r1, r2, r3, r4, r6, r7, r8, r9, r5⟩ := rb
  have A := one_if (S := S) (N := N) (d := d) (j := j) hN ha hc p3 hff ox ga gb l0 lb Ra Rb q r4 r7 r9 r2 r3 r6 r8 (by omega) (by omega) (by omega) (by omega) (by omega) (by omega) (by omega) (by omega) (by omega)
  have B := RunR.seq (S := S) (hd := hd) (f := f + stB a + stB b) (s1 := s + 1 + stB a + stB b) (n1 := n + sz x + szB a + szB b) (l1 := l + ls x + lsB a + lsB b) (Z2 := fun _ h' => RTc P num c (P.mty mth) h' (bIte p x a ff b r) E o s n l) (fun q hq => by
    rcases sB_inl hq with hq | ⟨_, _, hq⟩
    · have := (oS_inl hq).1; omega
    · rcases sB_inl hq with hq | ⟨_, _, hq⟩
      · have := Pgm.chk_place m a E q ga l0 hq; omega
      · split at hq
        · rcases sB_inl hq with hq | ⟨_, _, hq⟩
          · have := Pgm.chk_place m b E q gb lb hq; omega
          · cases hq
        · cases hq) gr l2 R q A r5 (by omega) (by omega) (by omega) (by omega) (by omega) (by omega) (fun E' hE => by
    obtain ⟨_, _, hE⟩ := sB_inr hE
    obtain ⟨E1, _, hE⟩ := sB_inr hE
    split at hE
    · obtain ⟨E2, _, hE⟩ := sB_inr hE
      injection hE with hE
      rw [← hE]
      exact ⟨by show E.1.length + nv r ≤ 999; omega, Pfx.same rfl⟩
    · injection hE with hE
      rw [← hE]
      exact ⟨by omega, Pfx.refl _⟩) (by omega) (fun E' E2 h1 h2 hE z g1 g2 tc => by
    have k : ∀ a, 151 ≤ a → a ≤ 161 → a ≠ 156 → a ≠ 158 → rd h2 a s = rd h a s := fun a i1 i2 i3 i4 => by rw [g2.2.2.1 _ _ (ts151 i1 i2 (Or.inl (by omega))), g1.2.2.1 _ _ (ts151 i1 i2 (Or.inr ⟨i3, i4⟩))]
    have ag := AgT.of g2 (s := s + 1) (s' := s + 1 + stB a + stB b) (n := n) (n' := n + sz x + szB a + szB b) (l := 0) (l' := 0) (Or.inl (by omega)) (Or.inl (Nat.le_refl _))
    rw [RTc_ite]
    refine ⟨(r1.ch g1 ts161).ch g2 ts161, ⟨by rw [k _ (by omega) (by omega) (by omega) (by omega)]; exact r2.1, by rw [k _ (by omega) (by omega) (by omega) (by omega)]; exact r2.2.2.2⟩, ag.rx (Nat.le_refl _) (by omega) z.1, by rw [k _ (by omega) (by omega) (by omega) (by omega)]; exact r6, RTc.ag m a E none _ _ _ ga z.2.1 (ag.sub (Nat.le_refl _) (by omega) (by omega) (by omega)), by rw [k _ (by omega) (by omega) (by omega) (by omega)]; exact r8, RTc.ag m b E none _ _ _ gb z.2.2 (ag.sub (by omega) (Nat.le_refl _) (by omega) (Nat.le_refl _)), ?_⟩
    obtain ⟨_, _, hE⟩ := sB_inr hE
    obtain ⟨E1, h5, hE⟩ := sB_inr hE
    by_cases zf : ff = 1
    · rw [if_pos zf] at hE ⊢
      obtain ⟨E3, h6, hE⟩ := sB_inr hE
      injection hE with hE
      rw [← hE] at tc
      intro F1 F2 u1 u2
      rw [h5] at u1
      rw [h6] at u2
      injection u1 with u1
      injection u2 with u2
      rw [← u1, ← u2]
      exact tc
    · rw [if_neg zf] at hE ⊢
      injection hE with hE
      rw [← hE] at tc
      exact tc)
  have hchk : P.chk c (P.mty mth) (bIte p x a ff b r) E = sB (sB (oS p (P.bcE c E x)) fun _ => sB (P.chk c (P.mty mth) a E) fun E1 => if ff = 1 then sB (P.chk c (P.mty mth) b E) fun E2 => .inr (E.join E1 E2) else .inr E) (P.chk c (P.mty mth) r) := by
    rw [Pgm.chk_ite]
    cases P.bcE c E x with
    | none => rfl
    | some E0 =>
      show (sB (P.chk c (P.mty mth) a E) fun E1 => if ff = 1 then sB (P.chk c (P.mty mth) b E) fun E2 => P.chk c (P.mty mth) r (E.join E1 E2) else P.chk c (P.mty mth) r E) = sB (sB (P.chk c (P.mty mth) a E) fun E1 => if ff = 1 then sB (P.chk c (P.mty mth) b E) fun E2 => .inr (E.join E1 E2) else .inr E) _
      cases P.chk c (P.mty mth) a E with
      | inl q => rfl
      | inr E1 =>
        show (if ff = 1 then sB (P.chk c (P.mty mth) b E) fun E2 => P.chk c (P.mty mth) r (E.join E1 E2) else P.chk c (P.mty mth) r E) = sB (if ff = 1 then sB (P.chk c (P.mty mth) b E) fun E2 => .inr (E.join E1 E2) else .inr E) _
        by_cases zf : ff = 1
        · rw [if_pos zf, if_pos zf]
          cases P.chk c (P.mty mth) b E <;> rfl
        · rw [if_neg zf, if_neg zf]
          rfl
  rw [show f + 1 + (1 + stB a + stB b + stB r) = f + stB a + stB b + 1 + stB r + 1 by omega, show s + (1 + stB a + stB b + stB r) = s + 1 + stB a + stB b + stB r by omega, show n + (sz x + szB a + szB b + szB r) = n + sz x + szB a + szB b + szB r by omega, hchk]
  exact B
theorem RunR.try_ {S : Tks} {P : Pgm} {D : List Int32 → Prop} {num : List Int32 → Nat} {c mth N : Nat} (hN : 5000 ≤ N) (ha : Acy P) (hc : c < P.n) (p3 : P.P3) (hmm : mth < P.ms.length) {p m cw w : Nat} {a b r : Tr} (ga : GK S m a) (gb : GK S m b) (gr : GK S m r) (Ra : RunR P D num c (P.mty mth) mth N a) (Rb : RunR P D num c (P.mty mth) mth N b) (R : RunR P D num c (P.mty mth) mth N r) : RunR P D num c (P.mty mth) mth N (bTry p a cw w b r) := by
  intro E o s n l d j f hd h q pl rb b1 b2 b3 b4 b5 b6
  obtain ⟨e1, e2, e3⟩ := sz_try p a cw w b r
  have hnv : nv (bTry p a cw w b r) = 1 + nv a + nv b + nv r := rfl
  have hdp : dp (bTry p a cw w b r) = max (max (dp a) (dp b) + 1) (dp r) := rfl
  rw [e1] at b1
  rw [e2] at b2
  rw [e3] at b3
  rw [hdp] at b4 b6
  rw [hnv] at b5
  have hfs : fsB (bTry p a cw w b r) s = Int32.ofNat s := by unfold fsB; rw [e1, if_neg (by omega)]
  obtain ⟨j, rfl⟩ : ∃ j', j = j' + 1 := ⟨j - 1, by omega⟩
  have hml := q.1.1.1.2.2.2.2.2.2.2.2.2.2.1
  rw [hfs, e1, e2]
  obtain ⟨l1, l0, lb, l2⟩ : p ≤ 3000 ∧ PlB a ∧ PlB b ∧ PlB r := pl
  obtain ⟨j, rfl⟩ : ∃ j', j = j' + 1 + 1 := ⟨j - 2, by omega⟩
  rw [RBn_try] at rb
  obtain ⟨r1, r2, r3, r4, r6, r7, r8, r9, r5⟩ := rb
  have A := one_try (S := S) (N := N) (d := d) (j := j) hN ga gb l0 lb Ra Rb q r4 r9 r2 r6 r7 r3 r8 l1 (by omega) (by omega) (by omega) (by omega) (by omega) (by omega) (by omega) (by omega) (by omega)
  have B := RunR.seq (S := S) (hd := hd) (f := f + stB a + stB b) (s1 := s + 1 + stB a + stB b) (n1 := n + szB a + szB b) (l1 := l + lsB a + lsB b) (Z2 := fun _ h' => RTc P num c (P.mty mth) h' (bTry p a cw w b r) E o s n l) (fun q hq => by
    rcases sB_inl hq with hq | ⟨_, _, hq⟩
    · have := Pgm.chk_place m a E q ga l0 hq; omega
    · rcases sB_inl hq with hq | ⟨_, _, hq⟩
      · have := (oS_inl hq).1; omega
      · rcases sB_inl hq with hq | ⟨_, _, hq⟩
        · have := Pgm.chk_place m b _ q gb lb hq; omega
        · cases hq) gr l2 R q A r5 (by omega) (by omega) (by omega) (by omega) (by omega) (by omega) (fun E' hE => by
    obtain ⟨E1, _, hE⟩ := sB_inr hE
    obtain ⟨_, _, hE⟩ := sB_inr hE
    obtain ⟨E2, _, hE⟩ := sB_inr hE
    injection hE with hE
    rw [← hE]
    exact ⟨by show E.1.length + nv r ≤ 999; omega, Pfx.same rfl⟩) (by omega) (fun E' E2 h1 h2 hE z g1 g2 tc => by
    have k : ∀ a, 151 ≤ a → a ≤ 161 → a ≠ 156 → a ≠ 158 → rd h2 a s = rd h a s := fun a i1 i2 i3 i4 => by rw [g2.2.2.1 _ _ (ts151 i1 i2 (Or.inl (by omega))), g1.2.2.1 _ _ (ts151 i1 i2 (Or.inr ⟨i3, i4⟩))]
    have k2 : ∀ a, 151 ≤ a → a ≤ 161 → rd h2 a s = rd h1 a s := fun a i1 i2 => g2.2.2.1 _ _ (ts151 i1 i2 (Or.inl (by omega)))
    have ag := AgT.of g2 (s := s + 1) (s' := s + 1 + stB a + stB b) (n := n) (n' := n + szB a + szB b) (l := 0) (l' := 0) (Or.inl (by omega)) (Or.inl (Nat.le_refl _))
    obtain ⟨E1, h5, hE⟩ := sB_inr hE
    obtain ⟨E0, h6, hE⟩ := sB_inr hE
    obtain ⟨E3, h7, hE⟩ := sB_inr hE
    injection hE with hE
    rw [← hE] at tc
    rw [RTc_try]
    refine ⟨(r1.ch g1 ts161).ch g2 ts161, by rw [k _ (by omega) (by omega) (by omega) (by omega)]; exact r2.1, by rw [k _ (by omega) (by omega) (by omega) (by omega)]; exact r3, RTc.ag m a E none _ _ _ ga z.1 (ag.sub (Nat.le_refl _) (by omega) (Nat.le_refl _) (by omega)), by rw [k _ (by omega) (by omega) (by omega) (by omega)]; exact r8, fun d' F0 v1 v2 => ?_⟩
    obtain ⟨z1, z2, z3⟩ := z.2 d' F0 v1 v2
    refine ⟨by rw [k2 _ (by omega) (by omega)]; exact z1, by rw [k2 _ (by omega) (by omega)]; exact z2, RTc.ag m b F0 none _ _ _ gb z3 (ag.sub (by omega) (Nat.le_refl _) (by omega) (Nat.le_refl _)), fun F1 F2 u1 u2 => ?_⟩
    rw [oS_inr h6] at v2
    obtain rfl := Option.some.inj v2
    rw [h5] at u1
    rw [h7] at u2
    injection u1 with u1
    injection u2 with u2
    rw [← u1, ← u2]
    exact tc)
  have hchk : P.chk c (P.mty mth) (bTry p a cw w b r) E = sB (sB (P.chk c (P.mty mth) a E) fun E1 => sB (oS p (P.ctE E cw w)) fun E0 => sB (P.chk c (P.mty mth) b E0) fun E2 => .inr (E.join E1 E2)) (P.chk c (P.mty mth) r) := by
    rw [Pgm.chk_try]
    cases P.chk c (P.mty mth) a E with
    | inl q => rfl
    | inr E1 =>
      show (sB (oS p (P.ctE E cw w)) fun E0 => sB (P.chk c (P.mty mth) b E0) fun E2 => P.chk c (P.mty mth) r (E.join E1 E2)) = sB (sB (oS p (P.ctE E cw w)) fun E0 => sB (P.chk c (P.mty mth) b E0) fun E2 => .inr (E.join E1 E2)) _
      cases P.ctE E cw w with
      | none => rfl
      | some E0 =>
        show (sB (P.chk c (P.mty mth) b E0) fun E2 => P.chk c (P.mty mth) r (E.join E1 E2)) = sB (sB (P.chk c (P.mty mth) b E0) fun E2 => .inr (E.join E1 E2)) _
        cases P.chk c (P.mty mth) b E0 <;> rfl
  rw [show f + 1 + (1 + stB a + stB b + stB r) = f + stB a + stB b + 1 + stB r + 1 by omega, show s + (1 + stB a + stB b + stB r) = s + 1 + stB a + stB b + stB r by omega, show n + (szB a + szB b + szB r) = n + szB a + szB b + szB r by omega, hchk]
  exact B
theorem RunR.all {S : Tks} {P : Pgm} {D : List Int32 → Prop} {num : List Int32 → Nat} {c mth N : Nat} (hN : 5000 ≤ N) (ha : Acy P) (hc : c < P.n) (p3 : P.P3) (hmm : mth < P.ms.length) : ∀ (n : Nat) (e : Tr), GK S n e → RunR P D num c (P.mty mth) mth N e
  | 0, e, hk => by
    rw [show e = nl from hk]
    exact RunR.zero (S := S)
  | n + 1, e, hk => by
    have IH := RunR.all (S := S) (D := D) (num := num) hN ha hc p3 hmm n
    rcases hk with rfl | ⟨p, y, w, r, rfl, g1, g2, hr⟩ | ⟨p, y, w, x, r, rfl, g1, g2, g3, hr⟩ | ⟨p, k, x, r, rfl, hk, hr⟩ | ⟨p, x, y, r, rfl, g1, g2, g3, hr⟩ | ⟨p, x, a, f, b, r, rfl, hf, g1, ha', hb, hr⟩ | ⟨p, x, a, r, rfl, g1, ha', hr⟩ | ⟨p, a, cw, w, b, r, rfl, g1, g2, ha', hb, hr⟩
    · exact RunR.zero (S := S)
    · exact RunR.tell hN ha hc p3 hmm g1 hr (IH r hr)
    · exact RunR.tellv hN ha hc p3 hmm g1 g3 hr (IH r hr)
    · exact RunR.work hN ha hc p3 hmm hk hr (IH r hr)
    · exact RunR.give hN ha hc p3 hmm g1 g2 g3 hr (IH r hr)
    · exact RunR.ite hN ha hc p3 hmm hf g1 ha' hb hr (IH a ha') (IH b hb) (IH r hr)
    · exact RunR.whil hN ha hc p3 hmm g1 ha' hr (IH a ha') (IH r hr)
    · exact RunR.try_ hN ha hc p3 hmm ha' hb hr (IH a ha') (IH b hb) (IH r hr)
