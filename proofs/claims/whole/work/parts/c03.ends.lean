/-! ===== ENDS: where there is no answer, it is 0; count 2 ===== -/
def Ea (σ : Mst) : Prop := match σ.2 with
  | .inr (k, a) => k ≤ 2 ∨ a = 0
  | .inl _ => True
theorem thr_ea (P : Pgm) (G : Gs) (o : Nat) (fs : List Fm) : Ea (P.thr G o fs) := by
  unfold Pgm.thr
  split
  · trivial
  · exact Or.inl (Nat.le_refl _)
theorem retM_ea (G : Gs) (z : Bool) (v : Vl) (fs : List Fm) : Ea (retM G z v fs) := by
  unfold retM
  split
  · exact Or.inl (by omega)
  · trivial
theorem mkO_ea (G : Gs) (i : Nat × Nat × Nat) (lo : List Vl) (ops : List (Bool × Vl)) (E : EnvV) (xs : List Xi) (ks : List Si) (fs : List Fm) (ob : Ob) : Ea (mkO G i lo ops E xs ks fs ob) := by
  unfold mkO
  split
  · trivial
  · exact Or.inr rfl
theorem calM_ea (P : Pgm) (G : Gs) (w : Nat) (as : List Vl) (r : Vl) (fs fs' : List Fm) : Ea (P.calM G w as r fs fs') := by
  unfold Pgm.calM
  split
  · split
    · exact Or.inr rfl
    · trivial
  · exact thr_ea P G 0 fs
theorem actX_ea (P : Pgm) (G : Gs) (i : Nat × Nat × Nat) (lo : List Vl) (ops : List (Bool × Vl)) (E : EnvV) (k v w : Nat) (l : List Nat) (xs : List Xi) (ks : List Si) (fs : List Fm) : Ea (P.actX G i lo ops E k v w l xs ks fs) := by
  unfold Pgm.actX
  split
  · trivial
  · split
    · exact mkO_ea _ _ _ _ _ _ _ _ _
    · split
      · split
        · exact thr_ea P G 4 _
        · exact mkO_ea _ _ _ _ _ _ _ _ _
      · split
        · exact calM_ea P G _ _ _ _ _
        · split
          · trivial
          · exact thr_ea P G _ _
theorem givM_ea (P : Pgm) (G : Gs) (i : Nat × Nat × Nat) (lo : List Vl) (ops : List (Bool × Vl)) (E E1 : EnvV) (x : Tr) (ks : List Si) (fs : List Fm) : Ea (P.givM G i lo ops E E1 x ks fs) := by
  unfold Pgm.givM
  split
  · split <;> trivial
  · split
    · split
      · trivial
      · exact thr_ea P G _ _
    · split
      · split
        · trivial
        · exact thr_ea P G _ _
      · exact thr_ea P G _ _
theorem actS_ea {S : Tks} (P : Pgm) (G : Gs) (i : Nat × Nat × Nat) (lo : List Vl) (ops : List (Bool × Vl)) (fs : List Fm) (E : EnvV) (ks : List Si) : ∀ (n : Nat) (bb : Tr), GK S n bb → Ea (P.actS G i lo ops fs bb E ks) := by
  intro n bb hk
  match n, hk with
  | 0, hk =>
    obtain rfl : bb = nl := hk
    trivial
  | n + 1, hk =>
    rcases hk with rfl | ⟨p, y, w, r, rfl, g1, g2, hkr⟩ | ⟨p, y, w, e, r, rfl, g1, g2, g3, hkr⟩ | ⟨p, k, e, r, rfl, hkk, hkr⟩ | ⟨p, x, e, r, rfl, g1, g2, g3, hkr⟩ | ⟨p, e, a, f, b, r, rfl, hf, g1, ha, hb, hkr⟩ | ⟨p, e, a, r, rfl, g1, ha, hkr⟩ | ⟨p, a, cw, w, b, r, rfl, g1, g2, ha, hb, hkr⟩
    · trivial
    · trivial
    · trivial
    · have hk5 := GKk hkk
      have hA : P.actS G i lo ops fs (nd k p 0 e r) E ks = if k = 40 then retM G true (.inl 0) fs
        else if k = 41 then retM G false (opV ops 0) fs
        else if k = 42 then (match opV ops 0 with
          | .inr (some o) => P.thr G o ((i, lo, ops, E, [], ks) :: fs)
          | _ => P.thr G 0 ((i, lo, ops, E, [], ks) :: fs))
        else ((G.1, G.2.1, G.2.2.1 ++ [vI (opV ops 0)], G.2.2.2), .inl ((i, lo, ops.drop 1, P.nxE i.1 (P.mty i.2.1) (nd k p 0 e r) E, [], ks) :: fs)) := by
        rcases hk5 with rfl | rfl | rfl | rfl | rfl <;> rfl
      rw [hA]
      split
      · exact retM_ea _ _ _ _
      · split
        · exact retM_ea _ _ _ _
        · split
          · split
            · exact thr_ea _ _ _ _
            · exact thr_ea _ _ _ _
          · trivial
    · exact givM_ea P G i lo ops E _ x ks fs
    · trivial
    · show Ea (if vI (opV ops 0) ≠ 0 then _ else _)
      split <;> trivial
    · trivial
theorem act_ea {P : Pgm} {S : Tks} {G : Gs} {f : Fm} {fs : List Fm} (hg : GdM P S (G, .inl (f :: fs))) (hs : P.sil G f fs = none) : Ea (P.act G f fs) := by
  obtain ⟨i, lo, ops, E, xs, ks⟩ := f
  obtain ⟨ho, ⟨hf, hfs⟩, -, hlen, hH⟩ := hg
  match xs, hf, hs with
  | .inl (k, v, w, z, l) :: xs, hf, hs => exact actX_ea P G i lo ops E k v w l xs ks fs
  | .inr (k, e) :: xs, hf, hs =>
    show Ea (P.actH G i lo ops E k e xs ks fs)
    unfold Pgm.actH
    split <;> trivial
  | [], hf, hs =>
    match ks, hf, hs with
    | [], hf, hs => cases hs
    | (k, E', bb, z) :: ks, hf, hs =>
      have h9 : KH P S i.1 (P.mty i.2.1) ((k, E', bb, z) :: ks) E _ := hf.2.2.2.2.2.2.1.choose_spec.choose_spec.2.2
      obtain rfl := sil_1 h9 hs
      obtain ⟨n, hgk⟩ := h9.2.2.1
      exact actS_ea P G i lo ops fs E' ks n bb hgk
theorem sil_ea {P : Pgm} {G : Gs} {f : Fm} {fs : List Fm} {σ : Mst} (h : P.sil G f fs = some σ) : Ea σ := by
  obtain ⟨i, lo, ops, E, xs, ks⟩ := f
  unfold Pgm.sil at h
  split at h
  · split at h
    · cases h; trivial
    · split at h
      · cases h; trivial
      · cases h
  · cases h
  · cases h
    exact retM_ea _ _ _ _
  · split at h
    · cases h; trivial
    · split at h
      · cases h; trivial
      · split at h
        · cases h; trivial
        · split at h
          · cases h; trivial
          · split at h
            · cases h; trivial
            · cases h
theorem Sls_ea {P : Pgm} : ∀ {n : Nat} {σ τ : Mst}, P.Sls n σ τ → Ea σ → Ea τ
  | 0, σ, τ, h, e => by rw [← h.1]; exact e
  | n + 1, (G, .inl []), τ, h, e => h.elim
  | n + 1, (G, .inr x), τ, h, e => h.elim
  | n + 1, (G, .inl (f :: fs)), τ, h, e => by
    have h : (match P.sil G f fs with | some σ' => P.Sls n σ' τ | none => False) := h
    cases hq : P.sil G f fs with
    | none => rw [hq] at h; exact h.elim
    | some σ' =>
      rw [hq] at h
      exact Sls_ea h (sil_ea hq)
theorem Sls_good {P : Pgm} {S : Tks} : ∀ {n : Nat} {σ τ : Mst}, P.Sls n σ τ → GdM P S σ → GdM P S τ
  | 0, σ, τ, h, e => by rw [← h.1]; exact e
  | n + 1, (G, .inl []), τ, h, e => h.elim
  | n + 1, (G, .inr x), τ, h, e => h.elim
  | n + 1, (G, .inl (f :: fs)), τ, h, e => by
    have h : (match P.sil G f fs with | some σ' => P.Sls n σ' τ | none => False) := h
    cases hq : P.sil G f fs with
    | none => rw [hq] at h; exact h.elim
    | some σ' =>
      rw [hq] at h
      exact Sls_good h (sil_good e hq)
theorem RunS_ea {P : Pgm} {S : Tks} (hP : PgF P S) : ∀ {k : Nat} {σ τ : Mst}, GdM P S σ → P.Sls 0 σ σ → P.RunS k σ τ → Ea σ → Ea τ
  | 0, σ, τ, hg, hs, h, e => by
    have h : σ = τ := h
    rw [← h]; exact e
  | k + 1, (G, .inl []), τ, hg, hs, h, e => by
    have h : (G, Sum.inl []) = τ := h
    rw [← h]; exact e
  | k + 1, (G, .inr x), τ, hg, hs, h, e => by
    have h : (G, Sum.inr x) = τ := h
    rw [← h]; exact e
  | k + 1, (G, .inl (f :: fs)), τ, hg, hs, h, e => by
    obtain ⟨n, σ2, a1, a2⟩ := h
    have hsil : P.sil G f fs = none := hs.2
    have ga := act_good hP (cnt_good hg) (sil_cnt hsil)
    have ge := Sls_ea a1 (act_ea (cnt_good hg) (sil_cnt hsil))
    exact RunS_ea hP (Sls_good a1 ga) (Sls_stl a1) a2 ge
/-- how many variables there are where a step is on top -/
theorem e44_of {P : Pgm} {S : Tks} {C : Cx} {G : Gs} {g : pH} {i : Nat × Nat × Nat} {lo : List Vl} {ops : List (Bool × Vl)} {E : EnvV} {xs : List Xi} {ks : List Si} {fs : List Fm} {M X U pc s : Nat} {o : Int32} {pre : List (Bool × Nat)} (hf : FT P S G.1 (i, lo, ops, E, xs, ks) pre) (hs : P.sil G (i, lo, ops, E, xs, ks) fs = none) (x1 : XC P C i.1 E g o xs pc s) (x2 : KC P C i.1 (P.mty i.2.1) M X U g ks s o) : rd g 44 pc = Int32.ofNat lo.length := by
  have hlo : lo.length = E.1.length := hf.2.2.2.2.1.1
  rw [hlo]
  match xs, hf, hs, x1 with
  | .inl (k, v, w, z, l) :: xs, hf, hs, x1 => exact x1.1.2.2
  | .inr (k, e) :: xs, hf, hs, x1 => exact x1.1.2.2.1
  | [], hf, hs, x1 =>
    have x1 : pc = s := x1
    subst x1
    match ks, hf, hs, x2 with
    | [], hf, hs, x2 => cases hs
    | (k, E', bb, z) :: ks, hf, hs, x2 =>
      have h9 : KH P S i.1 (P.mty i.2.1) ((k, E', bb, z) :: ks) E _ := hf.2.2.2.2.2.2.1.choose_spec.choose_spec.2.2
      obtain rfl := sil_1 h9 hs
      have hE : E = E' := h9.1
      subst hE
      obtain ⟨-, g1, ⟨n, g2⟩, -⟩ := h9
      rw [KC_1] at x2
      obtain ⟨s0, j1, j2, j3, j4⟩ := x2
      match n, g2 with
      | 0, g2 =>
        obtain rfl : bb = nl := g2
        cases g1
      | n + 1, g2 =>
        rcases g2 with rfl | ⟨p, y, w, r, rfl, w1, w2, hkr⟩ | ⟨p, y, w, e, r, rfl, w1, w2, w3, hkr⟩ | ⟨p, k, e, r, rfl, hkk, hkr⟩ | ⟨p, x, e, r0, rfl, w1, w2, w3, hkr⟩ | ⟨p, e, a', f, b', r, rfl, hff, w1, ha', hb', hkr⟩ | ⟨p, e, a', r, rfl, w1, ha', hkr⟩ | ⟨p, a', cw, w, b', r, rfl, w1, w2, ha', hb', hkr⟩
        · cases g1
        · cases g1
        · rw [TC_tellv] at j2
          have ex : exL (bTellv p y w e r) = cl e := rfl
          rw [ex] at j1
          rw [j1]
          exact j2.2.1.2.2.2
        · have hk5 := GKk hkk
          rw [TC_k hk5] at j2
          rw [(exL_k hk5 p e r).1] at j1
          rw [j1]
          exact j2.2.1.2.2.2
        · rw [TC_give] at j2
          have ex : exL (bGive p x e r0) = (cl x - 1) + cl e := rfl
          rw [ex, ← Nat.add_assoc] at j1
          rw [j1]
          exact j2.2.1.2.2.2
        · rw [TC_ite] at j2
          have ex : exL (bIte p e a' f b' r) = cl e := rfl
          rw [ex] at j1
          rw [j1]
          obtain ⟨-, -, tf⟩ := j2
          split at tf
          · exact tf.1.2.2.2
          · exact tf.1.2.2.2
        · rw [TC_whil] at j2
          have ex : exL (bWhil p e a' r) = cl e := rfl
          rw [ex] at j1
          rw [j1]
          exact j2.2.2.1.2.2.2
        · cases g1
theorem cells_cls {P : Pgm} {S : Tks} {C : Cx} {D : List Int32 → Prop} {num : List Int32 → Nat} {N : Nat} {g h : pH} {G : Gs} {f : Fm} {fs : List Fm} {pc : Nat} (hN : 12000 ≤ N) (hst : Stc P S C D num g) (hg : GdM P S (G, .inl (f :: fs))) (hsil : P.sil G f fs = none) (hr : CRs P C (msK P.ms) g h (G, .inl (f :: fs)) pc) : ∃ h', fX5_cellsReached N 128 h = some (Int32.ofNat (rcl G.1 (f :: fs)), h') ∧ CRs P C (msK P.ms) g h' (G, .inl (f :: fs)) pc ∧ Sg h' ∧ (∀ a k, a < 126 ∨ 138 ≤ a → rd h' a k = rd h a k) ∧ pileR h' = pileR h ∧ pileN h' = pileN h := by
  obtain ⟨t, hr⟩ := hr
  have hpU := hr.pcU
  have hU := hst.2.2.2
  obtain ⟨h13, h14, A, L, hb, b, M, X, o, k1, ⟨s, x1, x2⟩, k3, k4, k5, k6⟩ := hr
  obtain ⟨ho, ⟨hf, hfs⟩, -, hlen, hH⟩ := id hg
  have hl1 : fs.length + 1 ≤ 100 := hlen
  have sg := hb.1.1
  have e44 : rd g 44 pc = Int32.ofNat f.2.1.length := by
    obtain ⟨i, lo, ops, E, xs, ks⟩ := f
    exact e44_of hf hsil x1 x2
  have c1 : Cg (fun _ => False) (fun k => k = fs.length) (fun _ => False) h (wr h 133 fs.length (Int32.ofNat pc)) := ⟨fun b => sh_wr _ _ _ _ b, wr_len _ _ _ _, fun a k _ n => rd_wr_ne _ _ (fun z => n ⟨z.1.symm, z.2.symm⟩), fun a k _ => rdJ_wr _ _ _ _ _ _⟩
  have s1 := sg.wr 133 fs.length (Int32.ofNat pc)
  have pg : PgA fs.length 500000 h (wr h 133 fs.length (Int32.ofNat pc)) := c1.pg (fun k z => by omega) (fun _ z => z.elim) sg
  have hpn := sg.pile.2.2.2.2
  have htop := k1.top
  have k9 := k1.2.2.2.2.2.2.2.2.1
  have hb1 := k1.2.2.2.1
  have hbs : Bse g G A L (wr h 133 fs.length (Int32.ofNat pc)) := c1.bse (fun k z => z.elim) hb
  have hfo := FsT.fo hst.1.2.2.2.2.2.1 (show FsT P S G.1 (f :: fs) [] from ⟨hf, hfs⟩)
  obtain ⟨h2, A2, L2, a1, a2, a3, a4, a5, a6, a7, a8⟩ := reach_cls (N := N) hN hst ho hbs (k1.ag pg (by omega)) (k3.ag pg (Nat.le_refl _) (by omega)) (by rw [rd_wr_ne _ _ (by omega)]; exact k4) (by rw [rd_wr_ne _ _ (by omega)]; exact k5) (by omega) (W_133 sg _ _) e44 (by omega) hfo
  have n2 : ∀ a k, ¬ (a = 129 ∧ k = 2) → ¬ (a = 133 ∧ k = fs.length) → rd h2 a k = rd h a k := fun a k z1 z2 => (a8 a k z1).trans (rd_wr_ne _ _ (fun z => z2 ⟨z.1.symm, z.2.symm⟩))
  refine ⟨h2, ?_, ⟨t, (n2 _ _ (by omega) (by omega)).trans h13, (n2 _ _ (by omega) (by omega)).trans h14, A2, L2, a2, b, M, X, o, a4, ⟨s, x1, x2⟩, a5, (n2 _ _ (by omega) (by omega)).trans k4, (n2 _ _ (by omega) (by omega)).trans k5, (n2 _ _ (by omega) (by omega)).trans k6⟩, a2.1.1, fun a k z => n2 a k (by omega) (by omega), ?_, ?_⟩
  · have hu : rd h2 129 2 = Int32.ofNat (6 + tot G.1 L2) := a2.2.2.2.2.2.1
    unfold fX5_cellsReached
    rw [if_pos (o_128 sg), g_128_13 sg, Option.bind_some, h13, if_pos rfl, g_128_11 sg, Option.bind_some, k5, if_neg (by rw [iZ (by omega)]; omega), R_128_7 sg, Option.bind_some, Option.bind_some, g_128_12 sg, Option.bind_some, k6, i_sub1, T_133 sg (by omega), Option.bind_some, a1, Option.bind_some, R_128_4 a2.1.1, Option.bind_some]
    unfold fX3_cellsUsed
    rw [if_pos (o_129 a2.1.1), g_129_2 a2.1.1, Option.bind_some, hu, show (6 : Int32) = Int32.ofNat 6 from rfl, i_subk (by omega), show 6 + tot G.1 L2 - 6 = tot G.1 L2 by omega, a3, Option.bind_some]
  · exact a6.trans (pileR_wr _ _ _ _)
  · exact a7.trans (pileN_wr _ _ _ _)
theorem cells_ref {P : Pgm} {S : Tks} {num : List Int32 → Nat} {N : Nat} {g h : pH} {G : Gs} {fs : List Fm} (hN : 400000 ≤ N) (hg : GdM P S (G, .inl fs)) (hr : RRt P S num g h (G, .inl fs)) : ∃ h', fX12_marked N 138 h = some (Int32.ofNat (rcl G.1 fs), h') ∧ Sg h' ∧ Chg mkA h h' := by
  obtain ⟨t, ⟨q1, q2, B, O, L, lt, pt, trs, ⟨b1, b2, b3, b4⟩, q4, q5, q6, q7, q8⟩, htd, hl⟩ := hr
  obtain ⟨bl, h', a1, a2, a3, -⟩ := r_marked (N := N) hN hg.1 b1.1 b4 q4 q5 q6 hg.2.2.2.1
  exact ⟨h', a1, a2, a3⟩
theorem RRt.mk {P : Pgm} {S : Tks} {num : List Int32 → Nat} {g h h' : pH} {σ : Mst} (q : RRt P S num g h σ) (sg : Sg h') (c : Chg mkA h h') : RRt P S num g h' σ := by
  have st : StV g h → StV g h' := fun b => b.chg c (fun a k z => by unfold mkA; omega)
  have cn : ∀ G, CnR G h → CnR G h' := fun G b => b.chg c (fun a k z => by unfold mkA; omega)
  match σ, q with
  | (G, .inr (k, a)), q =>
    obtain ⟨q1, q2, q3, q4, q5, q6, q7, q8⟩ := q
    exact ⟨st q1, cn G q2, (c.2.2.1 _ _ (by unfold mkA; omega)).trans q3, (c.2.2.1 _ _ (by unfold mkA; omega)).trans q4, (c.2.2.1 _ _ (by unfold mkA; omega)).trans q5, (c.2.2.1 _ _ (by unfold mkA; omega)).trans q6, (c.2.2.1 _ _ (by unfold mkA; omega)).trans q7, q8⟩
  | (G, .inl fs), q =>
    obtain ⟨t, ⟨q1, q2, B, O, L, lt, pt, trs, ⟨b1, b2, b3, b4⟩, q4, q5, q6, q7, q8⟩, htd, hl⟩ := q
    exact ⟨t, ⟨(c.2.2.1 _ _ (by unfold mkA; omega)).trans q1, (c.2.2.1 _ _ (by unfold mkA; omega)).trans q2, B, O, L, lt, pt, trs, ⟨st b1, cn G b2, (c.2.2.1 _ _ (by unfold mkA; omega)).trans b3, b4.chg c (fun a k z => by unfold mkA; omega)⟩, q4.chg c (fun a n _ _ _ => by unfold mkA; omega) (fun a k _ _ => by unfold mkA; omega) (fun a k _ _ => by unfold mkA; omega), (c.2.2.1 _ _ (by unfold mkA; omega)).trans q5, (c.2.2.1 _ _ (by unfold mkA; omega)).trans q6, q7.chg c (by unfold mkA; omega) (fun a k z _ => by unfold mkA; omega), q8.chg c (by unfold mkA; omega) (fun a k z _ => by unfold mkA; omega)⟩, htd, hl⟩
