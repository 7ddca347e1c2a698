/-! ===== THE GRAMMAR'S PROGRAMS: places, types, parameters ===== -/
def PlS (a : Tr) : Prop := ∀ b, PlB b → PlB (bSeq a b)
theorem Tks.stm_pq {S : Tks} {r : Nat} {bk : Nat → Pr (Tr × Nat)} (hP : ∀ u, S.P u ≤ 3000) (hb : ∀ t x t', bk t = ok x t' → PlB x.1) {t : Nat} {a : Tr} {t' : Nat} (h : S.stm r bk t = ok a t') : PlS a := by
  have wk : ∀ k, (k = 41 ∨ k = 42 ∨ k = 43) → S.workS r k t = ok a t' → PlS a := by
    intro k hk h b pb
    obtain ⟨y, u, h1, h2⟩ := Pr.bind_eq_ok h
    obtain rfl := Tks.semi_inv h2
    show PlB (nd k (S.P t) 0 y b)
    rw [PlB_k (by omega)]
    exact ⟨hP t, pb⟩
  unfold Tks.stm at h
  split at h
  · unfold Tks.tellS at h
    split at h
    · exact (no_ok h).elim
    · split at h
      · exact (no_ok h).elim
      · split at h
        · obtain ⟨e, u, h1, h2⟩ := Pr.bind_eq_ok h
          obtain rfl := Tks.semi_inv h2
          exact fun b pb => ⟨hP t, pb⟩
        · obtain rfl := Tks.semi_inv h
          exact fun b pb => ⟨hP t, pb⟩
  · split at h
    · obtain ⟨c, t1, h1, h2⟩ := Pr.bind_eq_ok h
      obtain ⟨x, t2, h3, h4⟩ := Pr.bind_eq_ok h2
      split at h4
      · obtain ⟨y, t3, h5, h6⟩ := Pr.bind_eq_ok h4
        obtain ⟨rfl, rfl⟩ := ok_inj h6
        exact fun b pb => ⟨hP t, hb _ _ _ h3, hb _ _ _ h5, pb⟩
      · obtain ⟨rfl, rfl⟩ := ok_inj h4
        exact fun b pb => ⟨hP t, hb _ _ _ h3, trivial, pb⟩
    · split at h
      · obtain ⟨c, t1, h1, h2⟩ := Pr.bind_eq_ok h
        obtain ⟨x, t2, h3, h4⟩ := Pr.bind_eq_ok h2
        obtain ⟨rfl, rfl⟩ := ok_inj h4
        exact fun b pb => ⟨hP t, hb _ _ _ h3, pb⟩
      · split at h
        · obtain ⟨x, t1, h1, h2⟩ := Pr.bind_eq_ok h
          split at h2
          · exact (no_ok h2).elim
          · split at h2
            · exact (no_ok h2).elim
            · split at h2
              · exact (no_ok h2).elim
              · split at h2
                · exact (no_ok h2).elim
                · split at h2
                  · exact (no_ok h2).elim
                  · obtain ⟨y, t3, h5, h6⟩ := Pr.bind_eq_ok h2
                    obtain ⟨rfl, rfl⟩ := ok_inj h6
                    exact fun b pb => ⟨hP t, hb _ _ _ h1, hb _ _ _ h5, pb⟩
        · split at h
          · split at h
            · obtain ⟨rfl, rfl⟩ := ok_inj h
              exact fun b pb => ⟨hP t, pb⟩
            · exact wk 41 (by omega) h
          · split at h
            · exact wk 42 (by omega) h
            · split at h
              · exact wk 43 (by omega) h
              · obtain ⟨x, t1, h1, h2⟩ := Pr.bind_eq_ok h
                split at h2
                · obtain ⟨y, t2, h3, h4⟩ := Pr.bind_eq_ok h2
                  obtain rfl := Tks.semi_inv h4
                  exact fun b pb => ⟨hP t, pb⟩
                · split at h2
                  · obtain ⟨rfl, rfl⟩ := ok_inj h2
                    exact fun b pb => ⟨hP t, pb⟩
                  · exact (no_ok h2).elim
theorem Tks.stms_pq {S : Tks} {r : Nat} {bk : Nat → Pr (Tr × Nat)} (hP : ∀ u, S.P u ≤ 3000) (hb : ∀ t x t', bk t = ok x t' → PlB x.1) : ∀ (f t : Nat) (x : Tr) (t' : Nat), S.stms r bk f t = ok x t' → PlB x
  | 0, t, x, t', h => (no_ok h).elim
  | f + 1, t, x, t', h => by
    unfold Tks.stms at h
    split at h
    · obtain ⟨rfl, rfl⟩ := ok_inj h
      trivial
    · obtain ⟨a, t1, h1, h2⟩ := Pr.bind_eq_ok h
      obtain ⟨b, t2, h3, h4⟩ := Pr.bind_eq_ok h2
      obtain ⟨rfl, rfl⟩ := ok_inj h4
      exact Tks.stm_pq hP hb h1 b (Tks.stms_pq hP hb f _ _ _ h3)
theorem Tks.blk_pq {S : Tks} (hP : ∀ u, S.P u ≤ 3000) : ∀ (r t : Nat) (x : Tr × Nat) (t' : Nat), S.blk r t = ok x t' → PlB x.1 ∧ x.2 ≤ 3000
  | 0, t, x, t', h => (no_ok h).elim
  | r + 1, t, x, t', h => by
    unfold Tks.blk at h
    split at h
    · exact (no_ok h).elim
    · obtain ⟨b, t1, h1, h2⟩ := Pr.bind_eq_ok h
      obtain ⟨rfl, rfl⟩ := ok_inj h2
      exact ⟨Tks.stms_pq hP (fun t x t' h => (Tks.blk_pq hP r t x t' h).1) _ _ _ _ h1, hP t1⟩
def MP3 (b : Mb) : Prop := b.1 = true → PlB (mbB b) ∧ b.2.2.2.2.2.2 ≤ 3000
theorem Tks.mem_pq {S : Tks} (hP : ∀ u, S.P u ≤ 3000) {r t : Nat} {b : Mb} {t' : Nat} (h : S.mem r t = ok b t') : MP3 b := by
  unfold Tks.mem at h
  split at h
  · exact (no_ok h).elim
  · split at h
    · exact (no_ok h).elim
    · split at h
      · obtain ⟨rfl, rfl⟩ := ok_inj h
        intro z
        cases z
      · obtain ⟨ps, t1, h1, h2⟩ := Pr.bind_eq_ok h
        obtain ⟨c, t2, h3, h4⟩ := Pr.bind_eq_ok h2
        obtain ⟨rfl, rfl⟩ := ok_inj h4
        exact fun _ => Tks.blk_pq hP r _ _ _ h3
theorem Tks.mems_pq {S : Tks} (hP : ∀ u, S.P u ≤ 3000) {r : Nat} : ∀ (f t : Nat) (x : List Mb) (t' : Nat), S.mems r f t = ok x t' → ∀ b, b ∈ x → MP3 b
  | 0, t, x, t', h => (no_ok h).elim
  | f + 1, t, x, t', h => by
    unfold Tks.mems at h
    split at h
    · obtain ⟨rfl, rfl⟩ := ok_inj h
      intro b hb
      cases hb
    · obtain ⟨a, t1, h1, h2⟩ := Pr.bind_eq_ok h
      obtain ⟨l, t2, h3, h4⟩ := Pr.bind_eq_ok h2
      obtain ⟨rfl, rfl⟩ := ok_inj h4
      intro b hb
      rcases List.mem_cons.mp hb with z | z
      · rw [z]; exact Tks.mem_pq hP h1
      · exact Tks.mems_pq hP f _ _ _ h3 b z
theorem Tks.clsB_pq {S : Tks} (hP : ∀ u, S.P u ≤ 3000) {w p t : Nat} {o : Option Nat} {x : Cl} {t' : Nat} (h : S.clsB w p o t = ok x t') : ∀ b, b ∈ x.2.2.2 → MP3 b := by
  unfold Tks.clsB at h
  split at h
  · exact (no_ok h).elim
  · obtain ⟨m, t1, h1, h2⟩ := Pr.bind_eq_ok h
    obtain ⟨rfl, rfl⟩ := ok_inj h2
    exact Tks.mems_pq hP _ _ _ _ h1
theorem Tks.cls_pq {S : Tks} (hP : ∀ u, S.P u ≤ 3000) {t : Nat} {x : Cl} {t' : Nat} (h : S.cls t = ok x t') : ∀ b, b ∈ x.2.2.2 → MP3 b := by
  unfold Tks.cls at h
  split at h
  · exact (no_ok h).elim
  · split at h
    · split at h
      · exact (no_ok h).elim
      · exact Tks.clsB_pq hP h
    · exact Tks.clsB_pq hP h
theorem Tks.clss_pq {S : Tks} (hP : ∀ u, S.P u ≤ 3000) : ∀ (f t : Nat) (cs : List Cl) (t' : Nat), S.clss f t = ok cs t' → ∀ x, x ∈ cs → ∀ b, b ∈ x.2.2.2 → MP3 b
  | 0, t, cs, t', h => (no_ok h).elim
  | f + 1, t, cs, t', h => by
    unfold Tks.clss at h
    split at h
    · exact (no_ok h).elim
    · obtain ⟨c, t1, h1, h2⟩ := Pr.bind_eq_ok h
      have hc := Tks.cls_pq hP h1
      split at h2
      · obtain ⟨rfl, rfl⟩ := ok_inj h2
        intro x hx
        rw [List.mem_singleton.mp hx]
        exact hc
      · obtain ⟨l, t2, h3, h4⟩ := Pr.bind_eq_ok h2
        obtain ⟨rfl, rfl⟩ := ok_inj h4
        intro x hx
        rcases List.mem_cons.mp hx with z | z
        · rw [z]; exact hc
        · exact Tks.clss_pq hP f _ _ _ h3 x z
theorem Pgm.gr {S : Tks} {nmw : Nat → List Int32} {cs : List Cl} {t' : Nat} (h : S.prog = ok cs t') (hP : ∀ u, S.P u ≤ 3000) (hB : Pgm.badB (nmw, cs) = none) : GR (nmw, cs) := by
  intro m b hb hbm
  have hmem : b ∈ Pgm.ms (nmw, cs) := List.mem_of_getElem? hb
  obtain ⟨x, hx, hbx⟩ := List.mem_flatMap.mp hmem
  obtain ⟨v1, v2⟩ := Tks.clss_pq hP _ _ _ _ h x hx b hbx hbm
  exact ⟨v1, v2, (Pgm.t5 hB hb hbm).2⟩
theorem Pgm.gm {S : Tks} {nmw : Nat → List Int32} {cs : List Cl} {t' : Nat} (h : S.prog = ok cs t') {m : Nat} {b : Mb} (hb : (Pgm.ms (nmw, cs))[m]? = some b) : GM S b := by
  have hmem : b ∈ Pgm.ms (nmw, cs) := List.mem_of_getElem? hb
  obtain ⟨x, hx, hbx⟩ := List.mem_flatMap.mp hmem
  exact ((Tks.prog_gb h).1 x hx).2.2 b hbx
theorem Pgm.p3 {S : Tks} {nmw : Nat → List Int32} {cs : List Cl} {t' : Nat} (h : S.prog = ok cs t') : Pgm.P3 (nmw, cs) := by
  refine ⟨fun m b j hb hj => ?_, fun m b hb hm => ?_⟩
  · obtain ⟨g1, g2, g3, g4, g5⟩ := Pgm.gm (nmw := nmw) h hb
    have hpx : px b j ∈ b.2.2.2.2.1 := List.mem_of_getElem? (px_get hj)
    exact tyW_no3 (g3 _ hpx).1
  · obtain ⟨g1, g2, g3, g4, g5⟩ := Pgm.gm (nmw := nmw) h hb
    rcases g1 with g1 | g1
    · exact tyW_no3 g1
    · rw [hm] at g1
      cases g1.2
theorem Pgm.hF {S : Tks} {nmw : Nat → List Int32} {cs : List Cl} {t' : Nat} (h : S.prog = ok cs t') : ∀ (m : Nat) (b : Mb), (Pgm.ms (nmw, cs))[m]? = some b → b.1 = false → mbP b = 0 := by
  intro m b hb hm
  obtain ⟨g1, g2, g3, g4, g5⟩ := Pgm.gm (nmw := nmw) h hb
  show b.2.2.2.2.1.length = 0
  rw [g5 hm]
  rfl
/-- the methods' statements, as read, stand in the reference -/
theorem csS_ms : ∀ (xs : List Cl), csS xs = msS (xs.flatMap (fun x => x.2.2.2)) ∧ csN xs = msN (xs.flatMap (fun x => x.2.2.2)) ∧ csL xs = msL (xs.flatMap (fun x => x.2.2.2))
  | [] => ⟨rfl, rfl, rfl⟩
  | x :: xs => by
    obtain ⟨h1, h2, h3⟩ := csS_ms xs
    obtain ⟨a1, a2, a3⟩ := msS_app x.2.2.2 (xs.flatMap (fun x => x.2.2.2))
    refine ⟨?_, ?_, ?_⟩
    · show msS x.2.2.2 + csS xs = msS (x.2.2.2 ++ xs.flatMap (fun x => x.2.2.2))
      omega
    · show msN x.2.2.2 + csN xs = msN (x.2.2.2 ++ xs.flatMap (fun x => x.2.2.2))
      omega
    · show msL x.2.2.2 + csL xs = msL (x.2.2.2 ++ xs.flatMap (fun x => x.2.2.2))
      omega
theorem Parsed.code {S : Tks} {T : Txt} {cs : List Cl} {h : pH} (q : Parsed T cs h) (gp : ∀ (m : Nat) (b : Mb), (Pgm.ms (tkW T, cs))[m]? = some b → b.1 = true → ∃ n, GK S n (mbB b)) : (∀ j b, (Pgm.ms (tkW T, cs))[j]? = some b → b.1 = true → RCdM (tkW T, cs) (rD h) (rnum h) h j b) ∧ msS (Pgm.ms (tkW T, cs)) ≤ 1600 ∧ msN (Pgm.ms (tkW T, cs)) ≤ 3200 ∧ msL (Pgm.ms (tkW T, cs)) ≤ 3200 := by
  obtain ⟨⟨t, n, l, qq, s, a3, es, en, el⟩, q2, q3, q4, q5, q6, q7, q8, q9⟩ := q
  obtain ⟨a2, e44, e53, b44, b53⟩ := id a3
  have rp : RP T t h := a2.1.1
  have hi := rp.2.2.2.2.1
  have hP := (tkP_le T t).1
  have hT : T.2 ≤ 3000 := by
    have := rp.1.2.2
    rw [rp.2.2.1] at this
    omega
  obtain ⟨c1, c2, c3⟩ := csS_ms cs
  refine ⟨fun j b hb hbm => ?_, ?_, ?_, ?_⟩
  · have mb := msQ_get (csR_ms q2) hb
    obtain ⟨k, hg⟩ := gp j b hb hbm
    have m8 := mb.2.2.2.2.2.2 hbm
    simp only [Nat.zero_add] at m8
    exact ⟨⟨m8.1, m8.2.1⟩, RB.rbn cs hi k _ _ _ _ _ hg m8.2.2⟩
  · have : msS (Pgm.ms (tkW T, cs)) = csS cs := c1.symm
    have := a2.2.2
    omega
  · have : msN (Pgm.ms (tkW T, cs)) = csN cs := c2.symm
    have := a2.1.2.2.2.2.2.2.1
    omega
  · have : msL (Pgm.ms (tkW T, cs)) = csL cs := c3.symm
    have := a2.1.2.2.2.2.2.2.2.1
    omega
