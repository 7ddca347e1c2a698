/-! ===== THE CLASS moves what can be reached: the rest ===== -/
theorem FrK.rx {A : Nat → Nat} {L : List Nat} {h h' g : pH} {T Z : Nat → Prop} {n : Nat} {f : Fm} {b t M X pre : Nat} (hs : Sg h) (q : Rx T Z h h') (hT : ∀ k, T k → k < b ∨ t ≤ k) (hZ : ¬ Z n) (k : FrK A L h g n f b t M X pre) : FrK A L h' g n f b t M X pre := by
  obtain ⟨k1, k2, k3, k4, k5, k6, k7, k8, k9, k10, k11, k12, k13, k14⟩ := k
  have hap := hs.apart
  have hp : ∀ j, b ≤ j → j < t → rdJ h' (pileR h') j = rdJ h (pileR h) j := fun j j1 j2 => by
    rw [pileR_of q.1]
    exact q.2.2 _ _ (by omega) (by omega) (fun z => by have := hT j z.2; omega) (by omega)
  refine ⟨(q.2.1 _ _ (by omega)).trans k1, (q.2.1 _ _ (by omega)).trans k2, by rw [q.2.2 136 n (by omega) (by omega) (by omega) (fun z => hZ z.2)]; exact k3, k4, k5, k6, k7, k8, k9, k10, by rw [pileN_of q.1]; exact k11, ?_, ?_, k14⟩
  · intro j v hj
    have := (List.getElem?_eq_some_iff.mp hj).1
    rw [hp _ (by omega) (by omega)]
    exact k12 j v hj
  · intro j x hj
    have := (List.getElem?_eq_some_iff.mp hj).1
    rw [hp _ (by omega) (by omega)]
    exact k13 j x hj
theorem LwC.rx {P : Pgm} {C : Cx} {U : Nat} {g : pH} {A : Nat → Nat} {L : List Nat} {h h' : pH} {T Z : Nat → Prop} (hs : Sg h) (q : Rx T Z h h') : ∀ {fs : List Fm} {t se : Nat}, (∀ k, T k → t < k) → (∀ k, Z k → fs.length ≤ k) → LwC P C U g A L h fs t se → LwC P C U g A L h' fs t se
  | [], t, se, _, _, k => k
  | f :: fs, t, se, hT, hZ, k => by
    obtain ⟨b, M, X, z, o, k1, k2, k3, k4, k5, k6⟩ := k
    have hb1 := k1.2.2.2.1
    have k9 := k1.2.2.2.2.2.2.2.2.1
    have hap := hs.apart
    refine ⟨b, M, X, z, o, k1.rx hs q (fun k hk => Or.inr (by have := hT k hk; omega)) (fun y => by have := hZ _ y; rw [List.length_cons] at this; omega), ?_, ⟨(q.2.1 _ _ (by omega)).trans k3.1, k3.2⟩, k4, k5, LwC.rx hs q (fun k hk => by have := hT k hk; omega) (fun k hk => by have := hZ k hk; rw [List.length_cons] at this; omega) k6⟩
    rw [pileR_of q.1, q.2.2 _ _ (by omega) (by omega) (fun y => by have := hT t y.2; omega) (by omega)]
    exact k2
/-- what is known of each open method -/
def FOk (R : Nat → Prop) (f : Fm) : Prop := f.1.2.1 < 1000 ∧ f.2.2.1.length ≤ 1999 ∧ ∀ j, rootF f j → R j
theorem lw_mv {P : Pgm} {C : Cx} {U : Nat} {hp : List Ob} {R : Nat → Prop} {A : Nat → Nat} {L : List Nat} {p N D : Nat} {g : pH} (hN : 5000 ≤ N) (hho : HO P hp) (hPn : P.n ≤ 400) (hU : U ≤ 3000) (old : OldC hp A L) (hD : D ≤ 100) : ∀ (fs : List Fm) (t se d : Nat) (A' : Nat → Nat) (L' : List Nat) (h : pH), LwC P C U g A L h fs t se → Mov hp R A L A' L' p h → StC g h → rd h 134 fs.length = Int32.ofNat (t + 1) → fs.length < D → rd h 128 11 = Int32.ofNat D → R se → (∀ f, f ∈ fs → FOk R f) → ∃ h' A'' L'', fX5_moveReached_9 N (d + fs.length) 128 (Int32.ofNat 0) h = fX5_moveReached_9 N d 128 (Int32.ofNat fs.length) h' ∧ Mov hp R A L A'' L'' p h' ∧ Rx (fun k => k ≤ t) (fun k => k < fs.length) h h' ∧ Ext A' L' A'' L'' ∧ LwC P C U g A'' L'' h' fs t se
  | [], t, se, d, A', L', h, k, m, st, e1, e2, e3, e4, e5 => ⟨h, A', L', rfl, m, Rx.refl _ _ h, Ext.refl _ _, k⟩
  | f :: fs, t, se, d, A', L', h, k, m, st, e1, e2, e3, e4, e5 => by
    rw [List.length_cons] at e1 e2
    obtain ⟨b, M, X, q, o, k1, k2, k3, k4, k5, k6⟩ := k
    have hb1 := k1.2.2.2.1
    have k9 := k1.2.2.2.2.2.2.2.2.1
    have htop := k1.top
    obtain ⟨f1, f2, f3⟩ := e5 f (List.mem_cons_self ..)
    obtain ⟨h1, A1, L1, a1, a2, a3, a4, a5⟩ := lw_mv hN hho hPn hU old hD fs (b - 1) f.1.2.2 (d + 1) A' L' h k6 m st (by rw [k1.1, show b - 1 + 1 = b by omega]) (by omega) e3 (f3 _ (Or.inl rfl)) (fun f' hf' => e5 f' (List.mem_cons_of_mem _ hf'))
    have s1 := a2.1
    have hap := m.1.apart
    have st1 := a3.st st
    have ep := pileR_of a3.1
    obtain ⟨h2, A2, L2, b1, b2, b3, b4, b5, b6⟩ := frame_mv (N := N) (d := d) (n := fs.length) (q := q) (hi := t + 1) (D := D) (se := se) hN hho hPn old a2 st1 f1 (k1.rx m.1 a3 (fun k z => by omega) (fun z => by omega)) f2 (by omega) ((a3.2.1 _ _ (by omega)).trans k3.1) k3.2.1 (by omega) hD ((a3.2.1 _ _ (by omega)).trans e3) (Or.inr ⟨by omega, rfl, (a3.2.1 _ _ (by omega)).trans e1, (by
      rw [ep, a3.2.2 (pileR h) t (by omega) (by omega) (by omega) (by omega)]
      exact k2), e4, by rw [pileN_of a3.1]; omega⟩) f3
    have b6 := b6 (by omega)
    refine ⟨h2, A2, L2, ?_, b2, (a3.mono (fun k z => by omega) (fun k z => by rw [List.length_cons]; omega)).trans (b3.mono (fun k z => by omega) (fun k z => by rw [List.length_cons]; omega)), a4.trans b4, b, M, X, q, o, b5, ?_, ⟨(b3.2.1 _ _ (by omega)).trans ((a3.2.1 _ _ (by omega)).trans k3.1), k3.2⟩, k4, k5, ?_⟩
    · rw [List.length_cons, show d + (fs.length + 1) = d + 1 + fs.length by omega, a1, b1]
    · rw [pileR_of b3.1]; exact b6
    · exact (LwC.rx s1 b3 (fun k z => by omega) (fun k z => by omega) a5).mono b4.2
theorem Lay.spl {hp : List Ob} {A : Nat → Nat} {i : Nat} {L3 : List Nat} : ∀ {L1 : List Nat} {a : Nat}, Lay hp A (L1 ++ i :: L3) a → A i = a + tot hp L1
  | [], a, h => h.1
  | k :: L1, a, h => by
    have := Lay.spl (L1 := L1) h.2.2.2.2
    rw [this]
    show a + (2 + obL hp k) + tot hp L1 = a + (2 + obL hp k + tot hp L1)
    omega
theorem Mov.skip {hp : List Ob} {R : Nat → Prop} {A A' : Nat → Nat} {L L' : List Nat} {p p' : Nat} {h : pH} (m : Mov hp R A L A' L' p h) (h1 : p ≤ p') (h2 : p' ≤ 6 + tot hp L') (h3 : ∀ i ob j v, i ∈ L' → hp[i]? = some ob → ob.2[j]? = some v → p ≤ A' i + 2 + j → A' i + 2 + j < p' → ∃ n, v = .inl n) : Mov hp R A L A' L' p' h := by
  obtain ⟨m1, m2, m3, m4, m5, m6, m7, m8, m9, m10⟩ := m
  refine ⟨m1, m2, m3, m4, m5, m6, h2, m8, m9, fun i hi ob hob => ?_⟩
  obtain ⟨d1, d2, d3⟩ := m10 i hi ob hob
  refine ⟨d1, d2, fun j v hj => ⟨fun z => ?_, fun z => (d3 j v hj).2 (by omega)⟩⟩
  rcases Nat.lt_or_ge (A' i + 2 + j) p with y | y
  · exact (d3 j v hj).1 y
  · obtain ⟨n, rfl⟩ := h3 i ob j v hi hob hj y z
    exact ⟨((d3 j _ hj).2 y).1, okV_inl _ _⟩
theorem Ext.tot {hp : List Ob} {A' A'' : Nat → Nat} {L' L'' : List Nat} (e : Ext A' L' A'' L'') : tot hp L' ≤ tot hp L'' := by
  obtain ⟨⟨Z, rfl⟩, -⟩ := e
  rw [tot_app]
  omega
section FN
variable {P : Pgm} {hp : List Ob} {R : Nat → Prop} {A : Nat → Nat} {L : List Nat} {N : Nat}
/-- one word of an object that has moved -/
theorem field_mv {A' : Nat → Nat} {L' : List Nat} {h : pH} {i j : Nat} {ob : Ob} {v : Vl} (hho : HO P hp) (hn : P.n ≤ 400) (old : OldC hp A L) (hR : ∀ (j : Nat) (ob : Ob), R j → hp[j]? = some ob → ∀ x, Sum.inr (some x) ∈ ob.2 → R x) (hi : i ∈ L') (hob : hp[i]? = some ob) (hv : ob.2[j]? = some v) (m : Mov hp R A L A' L' (A' i + 2 + j) h) (ht : tot hp L' ≤ 10000) : ∃ w' h1 h' A'' L'', fX3_moved N 129 (rdJ h (cR h) (A' i + 2 + j)) h = some (w', h1) ∧ stJ h1 (cR h) (Int32.ofNat (A' i + 2 + j)) w' = some h' ∧ Mov hp R A L A'' L'' (A' i + 2 + j + 1) h' ∧ Mx h h' ∧ Ext A' L' A'' L'' := by
  obtain ⟨m1, m2, m3, m4, m5, m6, m7, m8, m9, m10⟩ := id m
  have hjl := (List.getElem?_eq_some_iff.mp hv).1
  have ml := m4.mem i hi
  rw [obL_get hob] at ml
  have hw := ((m10 i hi ob hob).2.2 j v hv).2 (Nat.le_refl _)
  obtain ⟨w', h1, A'', L'', e1, e2, e3, e4, e5⟩ := moved_ok (N := N) hho hn old m hw (fun x hx => hR i ob (m5 i hi).2 hob x (by rw [← hx]; exact List.mem_of_getElem? hv))
  have ec := cR_of e3.1
  have s1 := e2.1
  have t := T_c s1 (i := A' i + 2 + j) (by omega) w'
  have W := W_c s1 (A' i + 2 + j) w'
  rw [ec] at t W
  have hro := m1.rows.1
  have hi'' : i ∈ L'' := inL (e5.2 i (Or.inl hi)).1 ml.2.2.1
  have hA'' : A'' i = A' i := (e5.2 i (Or.inl hi)).2
  have et := e5.tot (hp := hp)
  obtain ⟨n1, n2, n3, n4, n5, n6, n7, n8, n9, n10⟩ := e2
  have mi := n4.mem i hi''
  rw [obL_get hob] at mi
  have ht2 : tot hp L'' ≤ tot hp L := tot_sub hp L'' L n4.nd (fun k hk => (n5 k hk).1)
  have ho3 := old.2.2
  refine ⟨w', h1, _, A'', L'', e1, t, ?_, e3.trans ⟨fun b => sh_wrJ _ _ _ _ b, fun a k _ => rd_wrJ _ _ _ _ _ _, fun a k a1 a2 => rdJ_wrJ_ne _ _ (by omega)⟩, e5⟩
  have hsh : ∀ b, sh (wrJ h1 (cR h) (A' i + 2 + j) w') b = sh h b := fun b => (sh_wrJ _ _ _ _ b).trans (e3.1 b)
  have ec2 := cR_of hsh
  have eo2 := oR_of hsh
  have eo1 := oR_of e3.1
  have ro : ∀ k, rdJ (wrJ h1 (cR h) (A' i + 2 + j) w') (oR h) k = rdJ h1 (oR h) k := fun k => rdJ_wrJ_ne _ _ (by omega)
  rw [eo1] at n8 n9
  refine ⟨n1.wrJ _ _ _, ?_, n3, n4, n5, by rw [rd_wrJ]; exact n6, by omega, fun k k1 k2 => by rw [eo2, ro, ro]; exact n8 k k1 k2, fun k k1 k2 o' ho' => ?_, fun k hk o' ho' => ?_⟩
  · intro k hk
    rw [rdJ_wrJ_ne _ _ (by omega), rdJ_wrJ_ne _ _ (by omega)]
    exact n2 k hk
  · obtain ⟨d1, d2, d3⟩ := n9 k k1 k2 o' ho'
    rw [eo2]
    exact ⟨(ro _).trans d1, (ro _).trans d2, fun j v hj => by rw [ro]; exact d3 j v hj⟩
  · obtain ⟨d1, d2, d3⟩ := n10 k hk o' ho'
    rw [ec] at d1 d2 d3
    rw [ec2]
    have hpos : ∀ x, (k ≠ i → x < 2 + o'.2.length) → (k = i → x ≠ 2 + j) → A'' k + x ≠ A' i + 2 + j := fun x x1 x2 e => by
      by_cases hki : k = i
      · subst hki
        have := x2 rfl
        omega
      · have ap := n4.apart k i hk hi'' hki
        rw [obL_get hob, obL_get ho'] at ap
        have := x1 hki
        omega
    refine ⟨?_, ?_, fun jj vv hjj => ?_⟩
    · rw [rdJ_wrJ_ne _ _ (fun z => hpos 0 (fun _ => by omega) (fun _ => by omega) (by rw [Nat.add_zero]; exact z.2.symm))]; exact d1
    · rw [rdJ_wrJ_ne _ _ (fun z => hpos 1 (fun _ => by omega) (fun _ => by omega) z.2.symm)]; exact d2
    · have hjjl := (List.getElem?_eq_some_iff.mp hjj).1
      by_cases hsame : k = i ∧ jj = j
      · obtain ⟨rfl, rfl⟩ := hsame
        rw [hob] at ho'
        obtain rfl := Option.some.inj ho'
        rw [hv] at hjj
        obtain rfl := Option.some.inj hjj
        rw [hA'']
        refine ⟨fun _ => ?_, fun z => by omega⟩
        rw [W]
        exact e4
      · have hne : A'' k + 2 + jj ≠ A' i + 2 + j := by
          have := hpos (2 + jj) (fun _ => by omega) (fun z e => hsame ⟨z, by omega⟩)
          omega
        rw [rdJ_wrJ_ne _ _ (fun z => hne z.2.symm)]
        exact ⟨fun z => (d3 jj vv hjj).1 (by omega), fun z => (d3 jj vv hjj).2 (by omega)⟩
theorem fields_mv {k5 : Nat → Int32 → Int32 → pH → Option pH} {v2 : Int32} {i : Nat} {ob : Ob} (hho : HO P hp) (hn : P.n ≤ 400) (old : OldC hp A L) (hR : ∀ (j : Nat) (ob : Ob), R j → hp[j]? = some ob → ∀ x, Sum.inr (some x) ∈ ob.2 → R x) (hob : hp[i]? = some ob) : ∀ (n j d : Nat) (A' : Nat → Nat) (L' : List Nat) (h : pH), j + n = ob.2.length → n < d → i ∈ L' → Mov hp R A L A' L' (A' i + 2 + j) h → ∃ h' A'' L'', fX3_finishMoving_52 N k5 d 129 v2 (Int32.ofNat (A' i + 2 + ob.2.length)) (Int32.ofNat (A' i + 2 + j)) h = k5 129 (Int32.ofNat (A' i + 2 + ob.2.length)) (v2 + 1) h' ∧ Mov hp R A L A'' L'' (A' i + 2 + ob.2.length) h' ∧ Mx h h' ∧ Ext A' L' A'' L''
  | 0, j, d, A', L', h, e, hd, hi, m => by
    obtain ⟨d, rfl⟩ : ∃ d', d = d' + 1 := ⟨d - 1, by omega⟩
    have ml := m.2.2.2.1.mem i hi
    rw [obL_get hob] at ml
    have ht : tot hp L' ≤ tot hp L := tot_sub hp L' L m.2.2.2.1.nd (fun k hk => (m.2.2.2.2.1 k hk).1)
    have ho3 := old.2.2
    have ej : j = ob.2.length := by omega
    subst ej
    refine ⟨h, A', L', ?_, m, Mx.refl h, Ext.refl _ _⟩
    rw [fX3_finishMoving_52, if_pos (by rw [iLe (by omega) (by omega)]; omega)]
    rfl
  | n + 1, j, d, A', L', h, e, hd, hi, m => by
    obtain ⟨d, rfl⟩ : ∃ d', d = d' + 1 := ⟨d - 1, by omega⟩
    have s := m.1
    have ml := m.2.2.2.1.mem i hi
    rw [obL_get hob] at ml
    have ht : tot hp L' ≤ tot hp L := tot_sub hp L' L m.2.2.2.1.nd (fun k hk => (m.2.2.2.2.1 k hk).1)
    have ho3 := old.2.2
    have hjl : j < ob.2.length := by omega
    obtain ⟨w', h1, h2, A2, L2, e1, e2, e3, e4, e5⟩ := field_mv (N := N) hho hn old hR hi hob (List.getElem?_eq_getElem hjl) m (by omega)
    have hA2 := (e5.2 i (Or.inl hi)).2
    have hi2 : i ∈ L2 := inL (e5.2 i (Or.inl hi)).1 ml.2.2.1
    obtain ⟨h3, A3, L3, f1, f2, f3, f4⟩ := fields_mv hho hn old hR hob n (j + 1) d A2 L2 h2 (by omega) (by omega) hi2 (by rw [hA2]; exact e3)
    rw [hA2] at f1 f2
    refine ⟨h3, A3, L3, ?_, f2, e4.trans f3, e5.trans f4⟩
    rw [fX3_finishMoving_52, if_neg (by rw [iLe (by omega) (by omega)]; omega), R_129_0 s]
    simp only [Option.bind_some]
    rw [L_c s (by omega), Option.bind_some, e1, Option.bind_some]
    dsimp only
    rw [e2, Option.bind_some, i_add1]
    exact f1
theorem clW_1 (o : Option Nat) (ho : ∀ c, o = some c → c < 100000) : (clW o = -1) ↔ o = none := by
  cases o with
  | none => exact ⟨fun _ => rfl, fun _ => by show (-1 : Int32).toInt64 = -1; decide⟩
  | some c =>
    refine ⟨fun h => ?_, fun h => by cases h⟩
    have h1 : (Int32.ofNat c).toInt64.toInt32 = (-1 : Int64).toInt32 := congrArg Int64.toInt32 h
    rw [Int32.toInt32_toInt64] at h1
    have := ho c rfl
    exact absurd h1 (i_ne_neg (by omega) (by decide))
theorem finish_mv (hN : 12000 ≤ N) (hho : HO P hp) (hn : P.n ≤ 400) (old : OldC hp A L) (hR : ∀ (j : Nat) (ob : Ob), R j → hp[j]? = some ob → ∀ x, Sum.inr (some x) ∈ ob.2 → R x) : ∀ (d v2 : Nat) (A' : Nat → Nat) (L1 L2 : List Nat) (h : pH), 10007 - (6 + tot hp L1) ≤ d → v2 ≤ tot hp L1 → Mov hp R A L A' (L1 ++ L2) (6 + tot hp L1) h → ∃ h' A'' L'', fX3_finishMoving_5 N d 129 (Int32.ofNat (6 + tot hp L1)) (Int32.ofNat v2) h = some h' ∧ Mov hp R A L A'' L'' (6 + tot hp L'') h' ∧ Mx h h' ∧ Ext A' (L1 ++ L2) A'' L''
  | d, v2, A', L1, L2, h, hd, h2, m => by
    have s := m.1
    have ht : tot hp (L1 ++ L2) ≤ tot hp L := tot_sub hp _ L m.2.2.2.1.nd (fun k hk => (m.2.2.2.2.1 k hk).1)
    have ho3 := old.2.2
    have hta := tot_app hp L1 L2
    obtain ⟨d, rfl⟩ : ∃ d', d = d' + 1 := ⟨d - 1, by omega⟩
    match L2, m, ht, hta with
    | [], m, ht, hta =>
      have hta : tot hp (L1 ++ []) = tot hp L1 + 0 := hta
      refine ⟨h, A', L1 ++ [], ?_, by rw [hta]; exact m, Mx.refl h, Ext.refl _ _⟩
      rw [fX3_finishMoving_5, show (10006 : Int32) = Int32.ofNat 10006 from rfl, if_neg (by rw [iLe (by omega) (by omega)]; omega), g_129_2 s, Option.bind_some, m.2.2.2.2.2.1, if_pos (by rw [iLe (by omega) (by omega)]; omega)]
    | i :: L3, m, ht, hta =>
      have hta : tot hp (L1 ++ i :: L3) = tot hp L1 + (2 + obL hp i + tot hp L3) := hta
      have hi : i ∈ L1 ++ i :: L3 := List.mem_append.mpr (Or.inr (List.mem_cons_self ..))
      obtain ⟨m1, m2, m3, m4, m5, m6, m7, m8, m9, m10⟩ := id m
      have hA : A' i = 6 + tot hp L1 := m4.spl
      obtain ⟨l1, l2, l3, l4⟩ := m4.mem i hi
      obtain ⟨ob, hob⟩ : ∃ ob, hp[i]? = some ob := ⟨_, List.getElem?_eq_getElem l4⟩
      rw [obL_get hob] at l2 hta
      obtain ⟨c1, c2, c3⟩ := m10 i hi ob hob
      have hcl : ∀ c, ob.1 = some c → c < 100000 := fun c hc => by
        have := hho.2 i ob hob
        rw [hc] at this
        have := this.2.1
        omega
      have e11 : tot hp (L1 ++ [i]) = tot hp L1 + (2 + ob.2.length) := by
        rw [tot_app]
        show _ + (2 + obL hp i + 0) = _
        rw [obL_get hob, Nat.add_zero]
      have eapp : L1 ++ i :: L3 = (L1 ++ [i]) ++ L3 := by rw [List.append_assoc]; rfl
      have hfld : ∀ k o' jj vv, k ∈ L1 ++ i :: L3 → hp[k]? = some o' → o'.2[jj]? = some vv → 6 + tot hp L1 ≤ A' k + 2 + jj → A' k + 2 + jj < 6 + tot hp L1 + (2 + ob.2.length) → k = i := fun k o' jj vv hk ho' hv z1 z2 => by
        by_cases hki : k = i
        · exact hki
        · have hjj := (List.getElem?_eq_some_iff.mp hv).1
          have ap := m4.apart k i hk hi hki
          rw [obL_get hob, obL_get ho'] at ap
          rcases ap with ap | ap
          · omega
          · omega
      have hrun : fX3_finishMoving_5 N (d + 1) 129 (Int32.ofNat (6 + tot hp L1)) (Int32.ofNat v2) h = if clW ob.1 = (-1 : Int64) then fX3_finishMoving_82 N (fX3_finishMoving_5 N d) 129 (Int32.ofNat v2) (Int32.ofNat (6 + tot hp L1 + (2 + ob.2.length))) h else fX3_finishMoving_52 N (fX3_finishMoving_5 N d) N 129 (Int32.ofNat v2) (Int32.ofNat (6 + tot hp L1 + (2 + ob.2.length))) (Int32.ofNat (6 + tot hp L1 + 2)) h := by
        rw [hA] at c1 c2
        have l1 := L_c s (i := 6 + tot hp L1) (by omega)
        have l2 := L_c s (i := 6 + tot hp L1 + 1) (by omega)
        rw [fX3_finishMoving_5, show (10006 : Int32) = Int32.ofNat 10006 from rfl, if_neg (by rw [iLe (by omega) (by omega)]; omega), g_129_2 s, Option.bind_some, m6, if_neg (by rw [iLe (by omega) (by omega)]; omega)]
        simp only [R_129_0 s, Option.bind_some, i_add1, l1, l2, c1, c2, lc_if, i_add2, Int32.toInt32_toInt64, ← Int32.ofNat_add]
        rw [show 6 + tot hp L1 + 2 + ob.2.length = 6 + tot hp L1 + (2 + ob.2.length) by omega]
      rw [hrun]
      by_cases hc : ob.1 = none
      · rw [if_pos ((clW_1 ob.1 hcl).mpr hc)]
        have harr : ∀ vv, vv ∈ ob.2 → ∃ n, vv = .inl n := by
          have := hho.2 i ob hob
          rw [hc] at this
          exact this.2
        have mm : Mov hp R A L A' ((L1 ++ [i]) ++ L3) (6 + tot hp (L1 ++ [i])) h := by
          rw [← eapp, e11]
          refine m.skip (by omega) (by omega) (fun k o' jj vv hk ho' hv z1 z2 => ?_)
          obtain rfl := hfld k o' jj vv hk ho' hv z1 (by omega)
          rw [hob] at ho'
          obtain rfl := Option.some.inj ho'
          exact harr vv (List.mem_of_getElem? hv)
        obtain ⟨h', A'', L'', f1, f2, f3, f4⟩ := finish_mv hN hho hn old hR d (v2 + 1) A' (L1 ++ [i]) L3 h (by omega) (by omega) mm
        rw [← eapp] at f4
        refine ⟨h', A'', L'', ?_, f2, f3, f4⟩
        unfold fX3_finishMoving_82
        rw [i_add1, ← f1, e11, show 6 + (tot hp L1 + (2 + ob.2.length)) = 6 + tot hp L1 + (2 + ob.2.length) by omega]
      · rw [if_neg (fun z => hc ((clW_1 ob.1 hcl).mp z))]
        have mm : Mov hp R A L A' (L1 ++ i :: L3) (A' i + 2 + 0) h := by
          rw [hA]
          refine m.skip (by omega) (by omega) (fun k o' jj vv hk ho' hv z1 z2 => ?_)
          obtain rfl := hfld k o' jj vv hk ho' hv z1 (by omega)
          omega
        obtain ⟨h1, A1, L1', f1, f2, f3, f4⟩ := fields_mv (N := N) (k5 := fX3_finishMoving_5 N d) (v2 := Int32.ofNat v2) hho hn old hR hob ob.2.length 0 N A' (L1 ++ i :: L3) h (by omega) (by have := (hho.2 i ob hob).1; omega) hi mm
        obtain ⟨⟨Z, hZ⟩, f4'⟩ := id f4
        have eL : L1' = (L1 ++ [i]) ++ (L3 ++ Z) := by rw [hZ, eapp, List.append_assoc]
        rw [eL] at f2
        rw [hA] at f1 f2
        have f2' : Mov hp R A L A1 ((L1 ++ [i]) ++ (L3 ++ Z)) (6 + tot hp (L1 ++ [i])) h1 := by
          rw [e11, show 6 + (tot hp L1 + (2 + ob.2.length)) = 6 + tot hp L1 + 2 + ob.2.length by omega]
          exact f2
        obtain ⟨h', A'', L'', g1, g2, g3, g4⟩ := finish_mv hN hho hn old hR d (v2 + 1) A1 (L1 ++ [i]) (L3 ++ Z) h1 (by omega) (by omega) f2'
        rw [← eL] at g4
        refine ⟨h', A'', L'', ?_, g2, f3.trans g3, f4.trans g4⟩
        rw [show 6 + tot hp L1 + (2 + ob.2.length) = 6 + tot hp L1 + 2 + ob.2.length by omega]
        rw [show Int32.ofNat (6 + tot hp L1 + 2) = Int32.ofNat (6 + tot hp L1 + 2 + 0) from rfl, f1, i_add1, ← g1, e11, show 6 + (tot hp L1 + (2 + ob.2.length)) = 6 + tot hp L1 + 2 + ob.2.length by omega]
end FN
