/-! ===== THE CLASS moves what can be reached: all ===== -/
theorem sumN_congr {f g : Nat → Nat} : ∀ {n : Nat}, (∀ k, k < n → f k = g k) → sumN f n = sumN g n
  | 0, _ => rfl
  | n + 1, h => by
    show sumN f n + f n = sumN g n + g n
    rw [sumN_congr (fun k hk => h k (by omega)), h n (by omega)]
theorem sumN_le {f g : Nat → Nat} : ∀ {n : Nat}, (∀ k, k < n → f k ≤ g k) → sumN f n ≤ sumN g n
  | 0, _ => Nat.le_refl _
  | n + 1, h => by
    show sumN f n + f n ≤ sumN g n + g n
    have := sumN_le (n := n) (f := f) (g := g) (fun k hk => h k (by omega))
    have := h n (by omega)
    omega
theorem sumN_one {f g : Nat → Nat} {i c : Nat} (h1 : ∀ k, k ≠ i → f k = g k) (h2 : f i = g i + c) : ∀ {n : Nat}, i < n → sumN f n = sumN g n + c
  | 0, h => by omega
  | n + 1, h => by
    show sumN f n + f n = sumN g n + g n + c
    by_cases z : i = n
    · subst z
      rw [sumN_congr (fun k hk => h1 k (by omega)), h2]
      omega
    · rw [sumN_one h1 h2 (n := n) (by omega), h1 n (fun y => z y.symm)]
      omega
theorem sumN_z : ∀ (n : Nat), sumN (fun _ => 0) n = 0
  | 0 => rfl
  | n + 1 => by show sumN _ n + 0 = 0; rw [sumN_z n]
theorem cellN_congr {hp : List Ob} {S T : Nat → Prop} (h : ∀ i, 5 ≤ i → i < hp.length → (S i ↔ T i)) : cellN hp S = cellN hp T := by
  unfold cellN
  refine sumN_congr (fun k hk => ?_)
  by_cases z : 5 ≤ k
  · by_cases y : S k
    · rw [if_pos ⟨z, y⟩, if_pos ⟨z, (h k z hk).mp y⟩]
    · rw [if_neg (fun q => y q.2), if_neg (fun q => y ((h k z hk).mpr q.2))]
  · rw [if_neg (fun q => z q.1), if_neg (fun q => z q.1)]
theorem cellN_le {hp : List Ob} {S T : Nat → Prop} (h : ∀ i, 5 ≤ i → i < hp.length → S i → T i) : cellN hp S ≤ cellN hp T := by
  unfold cellN
  refine sumN_le (fun k hk => ?_)
  by_cases z : 5 ≤ k ∧ S k
  · rw [if_pos z, if_pos ⟨z.1, h k z.1 hk z.2⟩]
    exact Nat.le_refl _
  · rw [if_neg z]
    exact Nat.zero_le _
theorem cellN_list {hp : List Ob} : ∀ {L : List Nat}, L.Nodup → (∀ i, i ∈ L → 5 ≤ i ∧ i < hp.length) → cellN hp (fun i => i ∈ L) = tot hp L
  | [], _, _ => by
    have h0 : cellN hp (fun i => i ∈ ([] : List Nat)) = sumN (fun _ => 0) hp.length := sumN_congr (fun k _ => if_neg (fun z => by cases z.2))
    rw [h0, sumN_z]
    rfl
  | i :: L, hn, h => by
    obtain ⟨n1, n2⟩ := List.nodup_cons.mp hn
    have ih := cellN_list n2 (fun j hj => h j (List.mem_cons_of_mem _ hj))
    obtain ⟨h5, hl⟩ := h i (List.mem_cons_self ..)
    show cellN hp _ = 2 + obL hp i + tot hp L
    rw [← ih]
    have h0 : cellN hp (fun j => j ∈ i :: L) = cellN hp (fun j => j ∈ L) + (2 + obL hp i) := by
      refine sumN_one (i := i) (fun k hk => ?_) ?_ hl
      · by_cases z : 5 ≤ k ∧ k ∈ L
        · rw [if_pos z, if_pos ⟨z.1, List.mem_cons_of_mem _ z.2⟩]
        · rw [if_neg z, if_neg (fun y => z ⟨y.1, (List.mem_cons.mp y.2).resolve_left hk⟩)]
      · rw [if_pos ⟨h5, List.mem_cons_self ..⟩, if_neg (fun z => n1 z.2)]
        omega
    rw [h0]
    omega
/-- frames do not look at the rows of cells -/
def Eqv (h h' : pH) : Prop := (∀ a k, a ≠ 129 → rd h' a k = rd h a k) ∧ (∀ a k, rdJ h' a k = rdJ h a k) ∧ pileR h' = pileR h ∧ pileN h' = pileN h
theorem FrK.eqv {A : Nat → Nat} {L : List Nat} {h h' g : pH} {n : Nat} {f : Fm} {b t M X pre : Nat} (q : Eqv h h') (k : FrK A L h g n f b t M X pre) : FrK A L h' g n f b t M X pre := by
  obtain ⟨k1, k2, k3, k4, k5, k6, k7, k8, k9, k10, k11, k12, k13, k14⟩ := k
  obtain ⟨q1, q2, q3, q4⟩ := q
  exact ⟨(q1 _ _ (by omega)).trans k1, (q1 _ _ (by omega)).trans k2, by rw [q2]; exact k3, k4, k5, k6, k7, k8, k9, k10, by omega, fun j v hj => by rw [q2, q3]; exact k12 j v hj, fun j v hj => by rw [q2, q3]; exact k13 j v hj, k14⟩
theorem LwC.eqv {P : Pgm} {C : Cx} {U : Nat} {g : pH} {A : Nat → Nat} {L : List Nat} {h h' : pH} (q : Eqv h h') : ∀ {fs : List Fm} {t se : Nat}, LwC P C U g A L h fs t se → LwC P C U g A L h' fs t se
  | [], t, se, k => k
  | f :: fs, t, se, k => by
    obtain ⟨b, M, X, z, o, k1, k2, k3, k4, k5, k6⟩ := k
    exact ⟨b, M, X, z, o, k1.eqv q, by rw [q.2.1, q.2.2.1]; exact k2, ⟨(q.1 _ _ (by omega)).trans k3.1, k3.2⟩, k4, k5, LwC.eqv q k6⟩
theorem reach_cls {P : Pgm} {S : Tks} {C : Cx} {D : List Int32 → Prop} {num : List Int32 → Nat} {N : Nat} {g h : pH} {G : Gs} {A : Nat → Nat} {L : List Nat} {f : Fm} {fs : List Fm} {b t M X pre q : Nat} (hN : 12000 ≤ N) (hst : Stc P S C D num g) (ho : HO P G.1) (hb : Bse g G A L h) (hF : FrK A L h g fs.length f b t M X pre) (hL : LwC P C (msK P.ms) g A L h fs (b - 1) f.1.2.2) (h6 : rd h 128 6 = Int32.ofNat t) (h11 : rd h 128 11 = Int32.ofNat (fs.length + 1)) (hq : q < 3100) (h133 : rd h 133 fs.length = Int32.ofNat q) (e44 : rd g 44 q = Int32.ofNat f.2.1.length) (hn : fs.length < 100) (hfo : ∀ f', f' ∈ f :: fs → f'.1.2.1 < 1000 ∧ f'.2.2.1.length ≤ 1999) : ∃ h' A' L', fX5_moveReached N 128 h = some h' ∧ Bse g G A' L' h' ∧ tot G.1 L' = rcl G.1 (f :: fs) ∧ FrK A' L' h' g fs.length f b t M X pre ∧ LwC P C (msK P.ms) g A' L' h' fs (b - 1) f.1.2.2 ∧ pileR h' = pileR h ∧ pileN h' = pileN h ∧ (∀ a k, ¬ (a = 129 ∧ k = 2) → rd h' a k = rd h a k) := by
  have sg := hb.1.1
  have hPn : P.n ≤ 400 := by have := hst.ct.2.2.2.2.2.1; omega
  obtain ⟨p1, p2, p3, p4, p5, p6, p7⟩ := hb.2.2.2
  have old : OldC G.1 A L := ⟨p1, p2, by omega⟩
  have hfo2 : ∀ f', f' ∈ f :: fs → FOk (Rch G.1 (f :: fs)) f' := fun f' hf' => ⟨(hfo f' hf').1, (hfo f' hf').2, fun j hj S hS _ => hS f' hf' j hj⟩
  have hR : ∀ (j : Nat) (ob : Ob), Rch G.1 (f :: fs) j → G.1[j]? = some ob → ∀ x, Sum.inr (some x) ∈ ob.2 → Rch G.1 (f :: fs) x := fun j ob hj hob x hx S h1 h2 => h2 j ob (hj S h1 h2) hob x hx
  obtain ⟨h1, a1, a2, a3, a4, a5, a6, a7, a8, a9⟩ := e3_begin (N := N) sg
  have hE : Eqv h h1 := ⟨fun a k ha => a8 a k (by omega), a9, a5, a6⟩
  have m0 : Mov G.1 (Rch G.1 (f :: fs)) A L (fun i => i + 1) [] 6 h1 := by
    refine ⟨a2, fun i hi => by rw [a9, a9]; exact hb.2.1 i hi, fun _ _ => rfl, trivial, fun i hi => (by cases hi), a7, Nat.le_refl _, fun i _ hi => (by cases hi), fun i hi _ ob hob => ?_, fun i hi => (by cases hi)⟩
    obtain ⟨c1, c2, c3⟩ := p7 i hi ob hob
    rw [a4]
    exact ⟨(a9 _ _).trans c1, (a9 _ _).trans c2, fun j v hj => by rw [a9]; exact c3 j v hj⟩
  have st1 : StC g h1 := ⟨a2, fun a k x1 x2 => (a8 a k (by omega)).trans (hb.1.2 a k x1 x2)⟩
  have hF1 := hF.eqv hE
  have hb1 := hF.2.2.2.1
  have htop := hF.top
  have k9 := hF.2.2.2.2.2.2.2.2.1
  obtain ⟨d, hd⟩ : ∃ d, N = (d + 1 + 1) + fs.length := ⟨N - fs.length - 2, by omega⟩
  obtain ⟨h2, A2, L2, b1, b2, b3, b4, b5⟩ := lw_mv (N := N) (D := fs.length + 1) (by omega) ho hPn hst.2.2.2 old (by omega) fs (b - 1) f.1.2.2 (d + 1 + 1) _ [] h1 (hL.eqv hE) m0 st1 (by rw [hF1.1, show b - 1 + 1 = b by omega]) (by omega) ((a8 _ _ (by omega)).trans h11) (fun S hS _ => hS f (List.mem_cons_self ..) _ (Or.inl rfl)) (fun f' hf' => hfo2 f' (List.mem_cons_of_mem _ hf'))
  obtain ⟨g1, g2, g3⟩ := hfo2 f (List.mem_cons_self ..)
  obtain ⟨h3, A3, L3, c1, c2, c3, c4, c5, -⟩ := frame_mv (N := N) (d := d + 1) (n := fs.length) (q := q) (hi := t) (D := fs.length + 1) (se := 0) (by omega) ho hPn old b2 (b3.st st1) g1 (hF1.rx a2 b3 (fun k z => by omega) (fun z => by omega)) g2 hq ((b3.2.1 _ _ (by omega)).trans ((a8 _ _ (by omega)).trans h133)) e44 (by omega) (by omega) ((b3.2.1 _ _ (by omega)).trans ((a8 _ _ (by omega)).trans h11)) (Or.inl ⟨rfl, rfl, (b3.2.1 _ _ (by omega)).trans ((a8 _ _ (by omega)).trans h6)⟩) g3
  have c6 : LwC P C (msK P.ms) g A3 L3 h3 fs (b - 1) f.1.2.2 := (LwC.rx b2.1 c3 (fun k z => by omega) (fun k z => by omega) b5).mono c4.2
  obtain ⟨h4, A4, L4, d1, d2, d3, d4⟩ := finish_mv (N := N) hN ho hPn old hR N 0 A3 [] L3 h3 (by show 10007 - (6 + 0) ≤ N; omega) (Nat.zero_le _) c2
  have c7 := c5.rx c2.1 (d3.rx (T := fun _ => False) (Z := fun _ => False)) (fun k z => z.elim) (fun z => z)
  have c8 : LwC P C (msK P.ms) g A4 L4 h4 fs (b - 1) f.1.2.2 := (LwC.rx c2.1 (d3.rx (T := fun _ => False) (Z := fun _ => False)) (fun k z => z.elim) (fun k z => z.elim) c6).mono d4.2
  obtain ⟨m1, m2, m3, m4, m5, m6, m7, m8, m9, m10⟩ := d2
  have rall : ∀ a k, ¬ (a = 129 ∧ k = 2) → rd h4 a k = rd h a k := fun a k n => (d3.2.1 a k n).trans ((c3.2.1 a k n).trans ((b3.2.1 a k n).trans (a8 a k n)))
  have hob : ∀ i, i ∈ L4 → ObC G.1 A4 L4 (cR h4) h4 i := fun i hi ob hob => by
    obtain ⟨e1, e2, e3⟩ := m10 i hi ob hob
    have ml := m4.mem i hi
    rw [obL_get hob] at ml
    refine ⟨e1, e2, fun j v hj => (e3 j v hj).1 ?_⟩
    have := (List.getElem?_eq_some_iff.mp hj).1
    omega
  have htl : tot G.1 L4 ≤ tot G.1 L := tot_sub G.1 L4 L m4.nd (fun k hk => (m5 k hk).1)
  have hrf : ∀ f', f' ∈ f :: fs → ∀ j, rootF f' j → j ∈ L4 ∨ j < 5 := by
    have hone : ∀ (n : Nat) (f' : Fm) (b' t' M' X' pre' : Nat), FrK A4 L4 h4 g n f' b' t' M' X' pre' → ∀ j, rootF f' j → j ∈ L4 ∨ j < 5 := fun n f' b' t' M' X' pre' k j hj => by
      obtain ⟨k1, k2, k3, k4, k5, k6, k7, k8, k9, k10, k11, k12, k13, k14⟩ := k
      rcases hj with rfl | hj | ⟨z, hj⟩
      · exact k3.2 _ rfl
      · obtain ⟨n', h1, h2⟩ := List.mem_iff_getElem.mp hj
        exact (k12 n' _ (by rw [List.getElem?_eq_getElem h1, h2])).2 j rfl
      · obtain ⟨n', h1, h2⟩ := List.mem_iff_getElem.mp hj
        exact (k13 n' _ (by rw [List.getElem?_eq_getElem h1, h2])).2 j rfl
    have hlist : ∀ (l : List Fm) (t' se' : Nat), LwC P C (msK P.ms) g A4 L4 h4 l t' se' → ∀ f', f' ∈ l → ∀ j, rootF f' j → j ∈ L4 ∨ j < 5 := fun l => by
      induction l with
      | nil => intro t' se' _ f' hf'; cases hf'
      | cons x l ih =>
        intro t' se' k f' hf'
        obtain ⟨b', M', X', z', o', k1, k2, k3, k4, k5, k6⟩ := k
        rcases List.mem_cons.mp hf' with rfl | hf'
        · exact hone _ _ _ _ _ _ _ k1
        · exact ih _ _ k6 f' hf'
    intro f' hf'
    rcases List.mem_cons.mp hf' with rfl | hf'
    · exact hone _ _ _ _ _ _ _ (c7.mono d4.2)
    · exact hlist fs _ _ c8 f' hf'
  have hset : ∀ i, 5 ≤ i → i < G.1.length → (i ∈ L4 ↔ Rch G.1 (f :: fs) i) := fun i h5 hl => by
    refine ⟨fun z => (m5 i z).2, fun z => ?_⟩
    have := z (fun j => j ∈ L4 ∨ j < 5) hrf (fun j ob hj hob' x hx => by
      rcases Nat.lt_or_ge j 5 with y | y
      · have e := ho.f5 y hob'
        rw [e] at hx
        cases hx
      · obtain ⟨n', h1, h2⟩ := List.mem_iff_getElem.mp hx
        exact ((hob j (inL hj y) ob hob').2.2 n' _ (by rw [List.getElem?_eq_getElem h1, h2])).2 x rfl)
    exact inL this h5
  refine ⟨h4, A4, L4, ?_, ⟨⟨m1, fun a k x1 x2 => (rall a k (by omega)).trans (hb.1.2 a k x1 x2)⟩, m2, ?_, m3, m4, m6, by omega, p5, (rall _ _ (by omega)).trans p6, hob⟩, ?_, c7.mono d4.2, c8, (pileR_of d3.1).trans ((pileR_of c3.1).trans ((pileR_of b3.1).trans a5)), (pileN_of d3.1).trans ((pileN_of c3.1).trans ((pileN_of b3.1).trans a6)), rall⟩
  · unfold fX5_moveReached
    rw [if_pos (o_128 sg), R_128_4 sg, Option.bind_some, a1, Option.bind_some]
    have e1 : fX5_moveReached_9 N N 128 0 h1 = fX5_moveReached_9 N (d + 1 + 1 + fs.length) 128 (Int32.ofNat 0) h1 := by rw [← hd]; rfl
    rw [e1, b1, c1, fX5_moveReached_9, g_128_11 c2.1, Option.bind_some, c3.2.1 _ _ (by omega), b3.2.1 _ _ (by omega), a8 _ _ (by omega), h11, if_pos (by rw [iLe (by omega) (by omega)]; omega), R_128_4 c2.1, Option.bind_some]
    unfold fX3_finishMoving
    rw [if_pos (o_129 c2.1), show fX3_finishMoving_5 N N 129 6 0 h3 = some h4 from d1, Option.bind_some]
  · obtain ⟨b1, b2, b3, b4, b5, z, b6, b7, b8, b9, b10⟩ := hb.2.2.1
    exact ⟨(rall _ _ (by omega)).trans b1, (rall _ _ (by omega)).trans b2, (rall _ _ (by omega)).trans b3, (rall _ _ (by omega)).trans b4, fun j x h1 h2 => (rall _ _ (by omega)).trans (b5 j x h1 h2), z, (rall _ _ (by omega)).trans b6, b7, (rall _ _ (by omega)).trans b8, b9, fun j x h1 => (rall _ _ (by omega)).trans (b10 j x h1)⟩
  · unfold rcl
    rw [← cellN_list m4.nd (fun i hi => ⟨(m4.mem i hi).2.2.1, (m4.mem i hi).2.2.2⟩)]
    exact cellN_congr hset
/-- what is in use is no less than what can be reached -/
theorem used_ge {P : Pgm} {C : Cx} {U : Nat} {g h : pH} {G : Gs} {A : Nat → Nat} {L : List Nat} {f : Fm} {fs : List Fm} {b t M X pre : Nat} (ho : HO P G.1) (hb : Bse g G A L h) (hF : FrK A L h g fs.length f b t M X pre) (hL : LwC P C U g A L h fs (b - 1) f.1.2.2) : rcl G.1 (f :: fs) ≤ tot G.1 L := by
  obtain ⟨p1, p2, p3, p4, p5, p6, p7⟩ := hb.2.2.2
  have hrf : ∀ f', f' ∈ f :: fs → ∀ j, rootF f' j → j ∈ L ∨ j < 5 := by
    have hone : ∀ (n : Nat) (f' : Fm) (b' t' M' X' pre' : Nat), FrK A L h g n f' b' t' M' X' pre' → ∀ j, rootF f' j → j ∈ L ∨ j < 5 := fun n f' b' t' M' X' pre' k j hj => by
      obtain ⟨k1, k2, k3, k4, k5, k6, k7, k8, k9, k10, k11, k12, k13, k14⟩ := k
      rcases hj with rfl | hj | ⟨z, hj⟩
      · exact k3.2 _ rfl
      · obtain ⟨n', h1, h2⟩ := List.mem_iff_getElem.mp hj
        exact (k12 n' _ (by rw [List.getElem?_eq_getElem h1, h2])).2 j rfl
      · obtain ⟨n', h1, h2⟩ := List.mem_iff_getElem.mp hj
        exact (k13 n' _ (by rw [List.getElem?_eq_getElem h1, h2])).2 j rfl
    have hlist : ∀ (l : List Fm) (t' se' : Nat), LwC P C U g A L h l t' se' → ∀ f', f' ∈ l → ∀ j, rootF f' j → j ∈ L ∨ j < 5 := fun l => by
      induction l with
      | nil => intro t' se' _ f' hf'; cases hf'
      | cons x l ih =>
        intro t' se' k f' hf'
        obtain ⟨b', M', X', z', o', k1, k2, k3, k4, k5, k6⟩ := k
        rcases List.mem_cons.mp hf' with rfl | hf'
        · exact hone _ _ _ _ _ _ _ k1
        · exact ih _ _ k6 f' hf'
    intro f' hf'
    rcases List.mem_cons.mp hf' with rfl | hf'
    · exact hone _ _ _ _ _ _ _ hF
    · exact hlist fs _ _ hL f' hf'
  unfold rcl
  rw [← cellN_list p2.nd (fun i hi => ⟨(p2.mem i hi).2.2.1, (p2.mem i hi).2.2.2⟩)]
  refine cellN_le (fun i h5 hl z => ?_)
  have := z (fun j => j ∈ L ∨ j < 5) hrf (fun j ob hj hob' x hx => by
    rcases Nat.lt_or_ge j 5 with y | y
    · have e := ho.f5 y hob'
      rw [e] at hx
      cases hx
    · obtain ⟨n', h1, h2⟩ := List.mem_iff_getElem.mp hx
      exact ((p7 j (inL hj y) ob hob').2.2 n' _ (by rw [List.getElem?_eq_getElem h1, h2])).2 x rfl)
  exact inL this h5
