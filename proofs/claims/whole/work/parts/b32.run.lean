/-! ===== THE CLASS runs ===== -/
/-- a step, all kinds -/
theorem act_cls {P : Pgm} {S : Tks} {C : Cx} {D : List Int32 → Prop} {num : List Int32 → Nat} {N : Nat} {g h : pH} {G : Gs} {f : Fm} {fs : List Fm} {t pc : Nat} (hN : 12000 ≤ N) (hst : Stc P S C D num g) (hg : GdM P S (G, .inl (f :: fs))) (hpr : G.2.2.1.length < 2 ^ 31 - 1) (hr : CRn P C (msK P.ms) g h G f fs t pc) (hs : P.sil G f fs = none) : StR P C (msK P.ms) g h N (fX5_act N 128 h) (P.act G f fs) := by
  have hpU := hr.pcU
  have hU := hst.2.2.2
  obtain ⟨h13, h14, A, L, hb, b, M, X, o, k1, ⟨s, x1, x2⟩, k3, k4, k5, k6⟩ := hr
  obtain ⟨ho, ⟨hf, hfs⟩, -, hlen, hH⟩ := hg
  have hl1 : fs.length + 1 ≤ 100 := hlen
  have sg := hb.1.1
  obtain ⟨c1, e133, e12⟩ := h9_cg (n := fs.length) (pc := pc) sg
  rw [act_pre (N := N) (pc := pc) hb.1 k5 k6 (by omega) (by omega)]
  refine StR.of c1.out ?_
  have hb1 := k1.2.2.2.1
  have pg : PgA fs.length 500000 h (h9H h fs.length pc) := c1.pg (fun k z => by omega) (fun _ z => z.elim) sg
  have hpn := sg.pile.2.2.2.2
  have htop := k1.top
  have k9 := k1.2.2.2.2.2.2.2.2.1
  have pre : Pre P C g (h9H h fs.length pc) G A L f fs b t M X pc := ⟨c1.bse (fun k z => by unfold QF; omega) hb, by rw [c1.2.2.1 _ _ (by omega) (by omega)]; exact h13, by rw [c1.2.2.1 _ _ (by omega) (by omega)]; exact h14, by rw [c1.2.2.1 _ _ (by omega) (by omega)]; exact k4, by rw [c1.2.2.1 _ _ (by omega) (by omega)]; exact k5, e12, e133, hpU, k1.ag pg (by omega), k3.ag pg (Nat.le_refl _) (by omega)⟩
  obtain ⟨i, lo, ops, E, xs, ks⟩ := f
  have x1 : XC P C i.1 E g o xs pc s := x1
  have x2 : KC P C i.1 (P.mty i.2.1) M X (msK P.ms) g ks s o := x2
  match xs, hf, hs, x1, pre with
  | .inl (k, v, w, z, l) :: xs, hf, hs, x1, pre =>
    have hs : (if k = 50 then some _ else if k = 51 then some _ else none : Option Mst) = none := hs
    have h50 : k ≠ 50 := fun z => by rw [if_pos z] at hs; cases hs
    have h51 : k ≠ 51 := fun z => by rw [if_neg h50, if_pos z] at hs; cases hs
    obtain ⟨y1, y2, y3⟩ := x1
    exact actX_cls hN hst ho pre hf hfs hl1 h50 h51 y1 y2 y3 x2
  | .inr (k, e) :: xs, hf, hs, x1, pre => exact actH_cls hst pre hf x1 x2
  | [], hf, hs, x1, pre =>
    have x1 : pc = s := x1
    subst x1
    match ks, hf, hs, x2, pre with
    | [], hf, hs, x2, pre => cases hs
    | (k, E', bb, z) :: ks, hf, hs, x2, pre =>
      have h9 : KH P S i.1 (P.mty i.2.1) ((k, E', bb, z) :: ks) E _ := hf.2.2.2.2.2.2.1.choose_spec.choose_spec.2.2
      unfold Pgm.sil at hs
      dsimp only at hs
      have k1 : k = 1 := by
        unfold KH at h9
        dsimp only at h9
        refine Classical.byContradiction fun z1 => ?_
        rw [if_neg z1] at h9
        by_cases z5 : k = 5
        · subst z5
          rw [if_neg (by omega), if_neg (by omega), if_neg (by omega), if_neg (by omega), if_pos rfl] at hs
          cases hs
        · rw [if_neg z5] at h9
          have hk := h9.2
          unfold KT at hk
          by_cases z0 : k = 0
          · rw [if_pos z0] at hs; cases hs
          · rw [if_neg z0] at hk hs
            by_cases z2 : k = 2
            · rw [if_pos z2] at hs; cases hs
            · rw [if_neg z2] at hk hs
              by_cases z3 : k = 3
              · rw [if_pos z3] at hs; cases hs
              · rw [if_neg z3] at hk hs
                by_cases z4 : k = 4
                · rw [if_pos z4] at hs; cases hs
                · rw [if_neg z4] at hk
                  exact hk
      subst k1
      have hE : E = E' := h9.1
      subst hE
      exact actS_cls hN hst ho hpr pre hf hfs hl1 x2
def prN (σ : Mst) : Nat := σ.1.2.2.1.length
theorem thr_pr (P : Pgm) (G : Gs) (o : Nat) (fs : List Fm) : prN (P.thr G o fs) = G.2.2.1.length := by
  unfold Pgm.thr prN
  split <;> rfl
theorem retM_pr (G : Gs) (z : Bool) (v : Vl) (fs : List Fm) : prN (retM G z v fs) = G.2.2.1.length := by
  unfold retM prN
  split <;> rfl
theorem mkO_pr (G : Gs) (i : Nat × Nat × Nat) (lo : List Vl) (ops : List (Bool × Vl)) (E : EnvV) (xs : List Xi) (ks : List Si) (fs : List Fm) (ob : Ob) : prN (mkO G i lo ops E xs ks fs ob) = G.2.2.1.length := by
  unfold mkO prN
  split <;> rfl
theorem calM_pr (P : Pgm) (G : Gs) (w : Nat) (as : List Vl) (r : Vl) (fs fs' : List Fm) : prN (P.calM G w as r fs fs') = G.2.2.1.length := by
  unfold Pgm.calM
  split
  · split <;> rfl
  · exact thr_pr P G 0 fs
theorem actX_pr (P : Pgm) (G : Gs) (i : Nat × Nat × Nat) (lo : List Vl) (ops : List (Bool × Vl)) (E : EnvV) (k v w : Nat) (l : List Nat) (xs : List Xi) (ks : List Si) (fs : List Fm) : prN (P.actX G i lo ops E k v w l xs ks fs) = G.2.2.1.length := by
  unfold Pgm.actX
  split
  · rfl
  · split
    · exact mkO_pr _ _ _ _ _ _ _ _ _
    · split
      · split
        · exact thr_pr P G 4 _
        · exact mkO_pr _ _ _ _ _ _ _ _ _
      · split
        · exact calM_pr P G _ _ _ _ _
        · split
          · rfl
          · exact thr_pr P G _ _
theorem givM_pr (P : Pgm) (G : Gs) (i : Nat × Nat × Nat) (lo : List Vl) (ops : List (Bool × Vl)) (E E1 : EnvV) (x : Tr) (ks : List Si) (fs : List Fm) : prN (P.givM G i lo ops E E1 x ks fs) = G.2.2.1.length := by
  unfold Pgm.givM
  split
  · split <;> rfl
  · split
    · split
      · rfl
      · exact thr_pr P G _ _
    · split
      · split
        · rfl
        · exact thr_pr P G _ _
      · exact thr_pr P G _ _
theorem actS_pr {S : Tks} (P : Pgm) (G : Gs) (i : Nat × Nat × Nat) (lo : List Vl) (ops : List (Bool × Vl)) (fs : List Fm) (E : EnvV) (ks : List Si) : ∀ (n : Nat) (bb : Tr), GK S n bb → prN (P.actS G i lo ops fs bb E ks) ≤ G.2.2.1.length + 1 := by
  intro n bb hk
  match n, hk with
  | 0, hk =>
    obtain rfl : bb = nl := hk
    exact Nat.le_succ _
  | n + 1, hk =>
    rcases hk with rfl | ⟨p, y, w, r, rfl, g1, g2, hkr⟩ | ⟨p, y, w, e, r, rfl, g1, g2, g3, hkr⟩ | ⟨p, k, e, r, rfl, hkk, hkr⟩ | ⟨p, x, e, r, rfl, g1, g2, g3, hkr⟩ | ⟨p, e, a, f, b, r, rfl, hf, g1, ha, hb, hkr⟩ | ⟨p, e, a, r, rfl, g1, ha, hkr⟩ | ⟨p, a, cw, w, b, r, rfl, g1, g2, ha, hb, hkr⟩
    · exact Nat.le_succ _
    · exact Nat.le_succ _
    · exact Nat.le_succ _
    · have hk5 := GKk hkk
      have hA : P.actS G i lo ops fs (nd k p 0 e r) E ks = if k = 40 then retM G true (.inl 0) fs
        else if k = 41 then retM G false (opV ops 0) fs
        else if k = 42 then (match opV ops 0 with
          | .inr (some o) => P.thr G o ((i, lo, ops, E, [], ks) :: fs)
          | _ => P.thr G 0 ((i, lo, ops, E, [], ks) :: fs))
        else ((G.1, G.2.1, G.2.2.1 ++ [vI (opV ops 0)], G.2.2.2), .inl ((i, lo, ops.drop 1, P.nxE i.1 (P.mty i.2.1) (nd k p 0 e r) E, [], ks) :: fs)) := by
        rcases hk5 with rfl | rfl | rfl | rfl | rfl <;> rfl
      rw [hA]
      split
      · rw [retM_pr]; exact Nat.le_succ _
      · split
        · rw [retM_pr]; exact Nat.le_succ _
        · split
          · split
            · rw [thr_pr]; exact Nat.le_succ _
            · rw [thr_pr]; exact Nat.le_succ _
          · unfold prN
            show (G.2.2.1 ++ [vI (opV ops 0)]).length ≤ _
            rw [List.length_append]
            exact Nat.le_refl _
    · show prN (P.givM G i lo ops E _ x ks fs) ≤ _
      rw [givM_pr]
      exact Nat.le_succ _
    · exact Nat.le_succ _
    · show prN (if vI (opV ops 0) ≠ 0 then _ else _) ≤ _
      split <;> exact Nat.le_succ _
    · exact Nat.le_succ _
theorem act_pr {P : Pgm} {S : Tks} {G : Gs} {f : Fm} {fs : List Fm} (hg : GdM P S (G, .inl (f :: fs))) (hs : P.sil G f fs = none) : prN (P.act G f fs) ≤ G.2.2.1.length + 1 := by
  obtain ⟨i, lo, ops, E, xs, ks⟩ := f
  obtain ⟨ho, ⟨hf, hfs⟩, -, hlen, hH⟩ := hg
  match xs, hf, hs with
  | .inl (k, v, w, z, l) :: xs, hf, hs =>
    show prN (P.actX G i lo ops E k v w l xs ks fs) ≤ _
    rw [actX_pr]
    exact Nat.le_succ _
  | .inr (k, e) :: xs, hf, hs =>
    show prN (P.actH G i lo ops E k e xs ks fs) ≤ _
    unfold Pgm.actH
    split <;> exact Nat.le_succ _
  | [], hf, hs =>
    match ks, hf, hs with
    | [], hf, hs => cases hs
    | (k, E', bb, z) :: ks, hf, hs =>
      have h9 : KH P S i.1 (P.mty i.2.1) ((k, E', bb, z) :: ks) E _ := hf.2.2.2.2.2.2.1.choose_spec.choose_spec.2.2
      unfold Pgm.sil at hs
      dsimp only at hs
      have k1 : k = 1 := by
        unfold KH at h9
        dsimp only at h9
        refine Classical.byContradiction fun z1 => ?_
        rw [if_neg z1] at h9
        by_cases z5 : k = 5
        · subst z5
          rw [if_neg (by omega), if_neg (by omega), if_neg (by omega), if_neg (by omega), if_pos rfl] at hs
          cases hs
        · rw [if_neg z5] at h9
          have hk := h9.2
          unfold KT at hk
          by_cases z0 : k = 0
          · rw [if_pos z0] at hs; cases hs
          · rw [if_neg z0] at hk hs
            by_cases z2 : k = 2
            · rw [if_pos z2] at hs; cases hs
            · rw [if_neg z2] at hk hs
              by_cases z3 : k = 3
              · rw [if_pos z3] at hs; cases hs
              · rw [if_neg z3] at hk hs
                by_cases z4 : k = 4
                · rw [if_pos z4] at hs; cases hs
                · rw [if_neg z4] at hk
                  exact hk
      subst k1
      obtain ⟨n, hgk⟩ := h9.2.2.1
      exact actS_pr P G i lo ops fs E' ks n bb hgk
theorem sil_G {P : Pgm} {G : Gs} {f : Fm} {fs : List Fm} {σ : Mst} (h : P.sil G f fs = some σ) : σ.1 = G := by
  obtain ⟨i, lo, ops, E, xs, ks⟩ := f
  unfold Pgm.sil at h
  split at h
  · split at h
    · cases h; rfl
    · split at h
      · cases h; rfl
      · cases h
  · cases h
  · cases h
    unfold retM
    split <;> rfl
  · split at h
    · cases h; rfl
    · split at h
      · cases h; rfl
      · split at h
        · cases h; rfl
        · split at h
          · cases h; rfl
          · split at h
            · cases h; rfl
            · cases h
theorem Sls_G {P : Pgm} : ∀ {n : Nat} {σ τ : Mst}, P.Sls n σ τ → τ.1 = σ.1
  | 0, σ, τ, h => by rw [h.1]
  | n + 1, (G, .inl []), τ, h => h.elim
  | n + 1, (G, .inr x), τ, h => h.elim
  | n + 1, (G, .inl (f :: fs)), τ, h => by
    have h : (match P.sil G f fs with | some σ' => P.Sls n σ' τ | none => False) := h
    cases hq : P.sil G f fs with
    | none => rw [hq] at h; exact h.elim
    | some σ' =>
      rw [hq] at h
      rw [Sls_G h, sil_G hq]
theorem Sls_det {P : Pgm} : ∀ {n m : Nat} {σ τ τ' : Mst}, P.Sls n σ τ → P.Sls m σ τ' → τ = τ'
  | 0, 0, σ, τ, τ', h1, h2 => h1.1.symm.trans h2.1
  | 0, m + 1, (G, .inl []), τ, τ', h1, h2 => h2.elim
  | 0, m + 1, (G, .inr x), τ, τ', h1, h2 => h2.elim
  | 0, m + 1, (G, .inl (f :: fs)), τ, τ', h1, h2 => by
    have h0 : P.sil G f fs = none := h1.2
    have h2 : (match P.sil G f fs with | some σ' => P.Sls m σ' τ' | none => False) := h2
    rw [h0] at h2
    exact h2.elim
  | n + 1, m, (G, .inl []), τ, τ', h1, h2 => h1.elim
  | n + 1, m, (G, .inr x), τ, τ', h1, h2 => h1.elim
  | n + 1, 0, (G, .inl (f :: fs)), τ, τ', h1, h2 => by
    have h0 : P.sil G f fs = none := h2.2
    have h1 : (match P.sil G f fs with | some σ' => P.Sls n σ' τ | none => False) := h1
    rw [h0] at h1
    exact h1.elim
  | n + 1, m + 1, (G, .inl (f :: fs)), τ, τ', h1, h2 => by
    have h1 : (match P.sil G f fs with | some σ' => P.Sls n σ' τ | none => False) := h1
    have h2 : (match P.sil G f fs with | some σ' => P.Sls m σ' τ' | none => False) := h2
    cases hq : P.sil G f fs with
    | none => rw [hq] at h1; exact h1.elim
    | some σ' =>
      rw [hq] at h1 h2
      exact Sls_det h1 h2
theorem Sls_stl {P : Pgm} : ∀ {n : Nat} {σ τ : Mst}, P.Sls n σ τ → P.Sls 0 τ τ
  | 0, σ, τ, h => by obtain ⟨rfl, h⟩ := h; exact ⟨rfl, h⟩
  | n + 1, (G, .inl []), τ, h => h.elim
  | n + 1, (G, .inr x), τ, h => h.elim
  | n + 1, (G, .inl (f :: fs)), τ, h => by
    have h : (match P.sil G f fs with | some σ' => P.Sls n σ' τ | none => False) := h
    cases hq : P.sil G f fs with
    | none => rw [hq] at h; exact h.elim
    | some σ' =>
      rw [hq] at h
      exact Sls_stl h
/-- so many steps, as far as it runs -/
def Pgm.RunS (P : Pgm) : Nat → Mst → Mst → Prop
  | 0, σ, τ => σ = τ
  | k + 1, (G, .inl (f :: fs)), τ => ∃ n σ2, P.Sls n (P.act (cntS G) f fs) σ2 ∧ Pgm.RunS P k σ2 τ
  | _ + 1, σ, τ => σ = τ
theorem RunS_end {P : Pgm} {G : Gs} {x : Nat × Int32} : ∀ (k : Nat), P.RunS k (G, .inr x) (G, .inr x)
  | 0 => rfl
  | _ + 1 => rfl
theorem RunS_det {P : Pgm} : ∀ {k : Nat} {σ τ τ' : Mst}, P.RunS k σ τ → P.RunS k σ τ' → τ = τ'
  | 0, σ, τ, τ', h1, h2 => h1.symm.trans h2
  | k + 1, (G, .inl []), τ, τ', h1, h2 => h1.symm.trans h2
  | k + 1, (G, .inr x), τ, τ', h1, h2 => h1.symm.trans h2
  | k + 1, (G, .inl (f :: fs)), τ, τ', h1, h2 => by
    obtain ⟨n, σ2, a1, a2⟩ := h1
    obtain ⟨m, σ3, b1, b2⟩ := h2
    obtain rfl := Sls_det a1 b1
    exact RunS_det a2 b2
def cod : Mst → Int32
  | (_, .inl _) => 0
  | (_, .inr (k, _)) => Int32.ofNat k
theorem CRs.sg {P : Pgm} {C : Cx} {U : Nat} {g h : pH} {σ : Mst} {pc : Nat} (hr : CRs P C U g h σ pc) : StC g h ∧ rd h 128 13 = cod σ ∧ FtC h ∧ CnC σ.1 h := by
  match σ, hr with
  | (G, .inl []), hr => exact hr.elim
  | (G, .inr (k, a)), hr => exact ⟨hr.1, hr.2.2.2.1, hr.2.1, hr.2.2.1⟩
  | (G, .inl (f :: fs)), hr =>
    obtain ⟨t, h13, h14, A, L, hb, _⟩ := hr
    exact ⟨hb.1, h13, hb.2.1, hb.2.2.1⟩
theorem Pot.add {h h1 h2 : pH} {nc ns nc' ns' : Nat} (q1 : Pot h h1 nc ns) (q2 : Pot h1 h2 nc' ns') : Pot h h2 (nc + nc') (ns + ns') := ⟨by have := q1.1; have := q2.1; omega, by have := q1.2; have := q2.2; omega⟩
theorem cnt_good {P : Pgm} {S : Tks} {G : Gs} {fs : List Fm} (h : GdM P S (G, .inl fs)) : GdM P S (cntS G, .inl fs) := h
theorem sil_cnt {P : Pgm} {G : Gs} {f : Fm} {fs : List Fm} (h : P.sil G f fs = none) : P.sil (cntS G) f fs = none := by
  obtain ⟨i, lo, ops, E, xs, ks⟩ := f
  match xs, ks, h with
  | .inl (k, v, w, z, l) :: xs, ks, h =>
    have h : (if k = 50 then some _ else if k = 51 then some _ else none : Option Mst) = none := h
    show (if k = 50 then some _ else if k = 51 then some _ else none : Option Mst) = none
    by_cases h1 : k = 50
    · rw [if_pos h1] at h; cases h
    · rw [if_neg h1] at h ⊢
      by_cases h2 : k = 51
      · rw [if_pos h2] at h; cases h
      · rw [if_neg h2]
  | .inr _ :: xs, ks, h => rfl
  | [], [], h => cases h
  | [], (k, E', b, z) :: ks, h =>
    unfold Pgm.sil at h ⊢
    dsimp only at h ⊢
    by_cases c0 : k = 0
    · rw [if_pos c0] at h; cases h
    rw [if_neg c0] at h ⊢
    by_cases c2 : k = 2
    · rw [if_pos c2] at h; cases h
    rw [if_neg c2] at h ⊢
    by_cases c3 : k = 3
    · rw [if_pos c3] at h; cases h
    rw [if_neg c3] at h ⊢
    by_cases c4 : k = 4
    · rw [if_pos c4] at h; cases h
    rw [if_neg c4] at h ⊢
    by_cases c5 : k = 5
    · rw [if_pos c5] at h; cases h
    rw [if_neg c5]
theorem run_cls {P : Pgm} {S : Tks} {C : Cx} {D : List Int32 → Prop} {num : List Int32 → Nat} {N : Nat} {g : pH} {v1 : Nat} (hN : 400000 ≤ N) (hst : Stc P S C D num g) (hv1 : v1 ≤ 20000) : ∀ (k d v2 nc ns : Nat) (σ : Mst) (h : pH) (pc : Nat), v2 + k = v1 → k < d → GdM P S σ → P.Sls 0 σ σ → CRs P C (msK P.ms) g h σ pc → prN σ + k < 2 ^ 31 - 1 → ∃ h' nc' ns' τ pc', fX5_run_2 N d 128 (Int32.ofNat v1) (Int32.ofNat v2) nc ns h = some (cod τ, h', nc + nc', ns + ns') ∧ P.RunS k σ τ ∧ CRs P C (msK P.ms) g h' τ pc' ∧ GdM P S τ ∧ P.Sls 0 τ τ ∧ OutG h h' ∧ Pot h h' nc' ns' ∧ prN τ ≤ prN σ + k
  | 0, d, v2, nc, ns, σ, h, pc, e, hd, hg, hs, hr, hp => by
    obtain ⟨d, rfl⟩ : ∃ d', d = d' + 1 := ⟨d - 1, by omega⟩
    have q := hr.sg
    refine ⟨h, 0, 0, σ, pc, ?_, rfl, hr, hg, hs, fun _ _ _ => rfl, ⟨Nat.le_refl _, by omega⟩, Nat.le_refl _⟩
    rw [fX5_run_2, if_pos (by rw [iLe (by omega) (by omega)]; omega), g_128_13 q.1.1, Option.bind_some, q.2.1, Nat.add_zero, Nat.add_zero]
  | k + 1, d, v2, nc, ns, σ, h, pc, e, hd, hg, hs, hr, hp => by
    obtain ⟨d, rfl⟩ : ∃ d', d = d' + 1 := ⟨d - 1, by omega⟩
    have q := hr.sg
    have hst13 := q.2.1
    match σ, hg, hs, hr, hp, q with
    | (G, .inl []), hg, hs, hr, hp, q => exact hr.elim
    | (G, .inr (kk, a)), hg, hs, hr, hp, q =>
      have r6 := hr.2.2.2.2.2
      refine ⟨h, 0, 0, (G, .inr (kk, a)), pc, ?_, rfl, hr, hg, hs, fun _ _ _ => rfl, ⟨Nat.le_refl _, by omega⟩, by omega⟩
      rw [fX5_run_2, if_neg (by rw [iLe (by omega) (by omega)]; omega), g_128_13 q.1.1, Option.bind_some, q.2.1]
      show (if Int32.ofNat kk = 0 then _ else _) = _
      rw [if_neg (by rw [iZ (by omega)]; omega), Option.bind_some, Nat.add_zero, Nat.add_zero]
    | (G, .inl (f :: fs)), hg, hs, hr, hp, q =>
      obtain ⟨t, hr⟩ := hr
      have hpU := hr.pcU
      have hsil : P.sil G f fs = none := hs.2
      have sg := q.1.1
      have h12 : rd h 128 12 = Int32.ofNat pc := by
        obtain ⟨h13, h14, A, L, hb, b, M, X, o, k1, k2, k3, k4, k5, k6⟩ := hr
        exact k6
      have h15 : rd h 128 15 = Int32.ofNat G.2.2.2.1.1 := q.2.2.2.1
      have c1 : Cg (fun k => k = 15) (fun _ => False) (fun _ => False) h (wr h 128 15 (Int32.ofNat (G.2.2.2.1.1 + 1))) := Cg.wr h 15 _ rfl
      have s1 := c1.sg sg
      have hr1 : CRn P C (msK P.ms) g (wr h 128 15 (Int32.ofNat (G.2.2.2.1.1 + 1))) (cntS G) f fs t pc := by
        obtain ⟨h13, h14, A, L, hb, b, M, X, o, k1, k2, k3, k4, k5, k6⟩ := hr
        have pg : PgA fs.length 500000 h (wr h 128 15 (Int32.ofNat (G.2.2.2.1.1 + 1))) := c1.pg (fun _ z => z.elim) (fun _ z => z.elim) sg
        have hpn := sg.pile.2.2.2.2
        have htop := k1.top
        have k9 := k1.2.2.2.2.2.2.2.2.1
        refine ⟨by rw [rd_wr_ne _ _ (by omega)]; exact h13, by rw [rd_wr_ne _ _ (by omega)]; exact h14, A, L, ⟨c1.st hb.1, c1.ft sg hb.2.1, ?_, c1.hp sg hb.2.2.2⟩, b, M, X, o, k1.ag pg (by omega), k2, k3.ag pg (Nat.le_refl _) (by omega), by rw [rd_wr_ne _ _ (by omega)]; exact k4, by rw [rd_wr_ne _ _ (by omega)]; exact k5, by rw [rd_wr_ne _ _ (by omega)]; exact k6⟩
        obtain ⟨b1, b2, b3, b4, b5, z, b6, b7, b8, b9, b10⟩ := hb.2.2.1
        exact ⟨w_128_15 sg _, by rw [rd_wr_ne _ _ (by omega)]; exact b2, by rw [rd_wr_ne _ _ (by omega)]; exact b3, by rw [rd_wr_ne _ _ (by omega)]; exact b4, fun j x h1 h2 => by rw [rd_wr_ne _ _ (by omega)]; exact b5 j x h1 h2, z, by rw [rd_wr_ne _ _ (by omega)]; exact b6, b7, by rw [rd_wr_ne _ _ (by omega)]; exact b8, b9, fun j x h1 => by rw [rd_wr_ne _ _ (by omega)]; exact b10 j x h1⟩
      have hp : G.2.2.1.length + (k + 1) < 2 ^ 31 - 1 := hp
      have hA := act_cls (N := N) (by omega) hst (cnt_good hg) (by show G.2.2.1.length < _; omega) hr1 (sil_cnt hsil)
      have hga := act_good hst.1 (cnt_good hg) (sil_cnt hsil)
      have hpa : prN (P.act (cntS G) f fs) ≤ G.2.2.1.length + 1 := act_pr (cnt_good hg) (sil_cnt hsil)
      have run : ∀ (h1 : pH) (pc1 nc1 ns1 : Nat), CRs P C (msK P.ms) g h1 (P.act (cntS G) f fs) pc1 → OutG h h1 → Pot h h1 nc1 ns1 → ∃ h' nc' ns' τ pc', fX5_run_54 N (fX5_run_2 N d) 128 (Int32.ofNat v1) (Int32.ofNat v2) (nc + nc1) (ns + ns1) h1 = some (cod τ, h', nc + nc', ns + ns') ∧ P.RunS (k + 1) (G, .inl (f :: fs)) τ ∧ CRs P C (msK P.ms) g h' τ pc' ∧ GdM P S τ ∧ P.Sls 0 τ τ ∧ OutG h h' ∧ Pot h h' nc' ns' ∧ prN τ ≤ prN (G, Sum.inl (f :: fs)) + (k + 1) := fun h1 pc1 nc1 ns1 hc ho hp1 => by
        obtain ⟨n, σ2, h2, pc2, a1, a2, a3, a4, a5⟩ := settle_cls (N := N) hN hst.cde hga hc
        have hp2 : prN σ2 ≤ G.2.2.1.length + 1 := by
          have : prN σ2 = prN (P.act (cntS G) f fs) := by unfold prN; rw [Sls_G a1]
          omega
        obtain ⟨h3, nc3, ns3, τ, pc3, b1, b2, b3, b4, b5, b6, b7, b8⟩ := run_cls hN hst hv1 k d (v2 + 1) (nc + nc1) (ns + ns1) σ2 h2 pc2 (by omega) (by omega) a4 (Sls_stl a1) a3 (by omega)
        have hq := (hp1.add a5.pot).add b7
        refine ⟨h3, nc1 + nc3, ns1 + ns3, τ, pc3, ?_, ⟨n, σ2, a1, b2⟩, b3, b4, b5, (ho.trans a5.1).trans b6, ?_, ?_⟩
        · unfold fX5_run_54
          rw [a2, Option.bind_some, i_add1, b1, Nat.add_assoc, Nat.add_assoc]
        · rw [Nat.add_zero, Nat.add_zero] at hq
          exact hq
        · have e : prN (G, Sum.inl (f :: fs)) = G.2.2.1.length := rfl
          omega
      have hstep : fX5_run_2 N (d + 1) 128 (Int32.ofNat v1) (Int32.ofNat v2) nc ns h = (fX5_act N 128 (wr h 128 15 (Int32.ofNat (G.2.2.2.1.1 + 1)))).bind fun q14 => if (lg_cmp q14.1 (0 : Int64)) = 0 then fX5_run_54 N (fX5_run_2 N d) 128 (Int32.ofNat v1) (Int32.ofNat v2) (nc + q14.2.2.1) (ns + q14.2.2.2) q14.2.1 else (fX5_throwObject N 128 q14.1 q14.2.1).bind fun h16 => fX5_run_54 N (fX5_run_2 N d) 128 (Int32.ofNat v1) (Int32.ofNat v2) (nc + q14.2.2.1) (ns + q14.2.2.2) h16 := by
        rw [fX5_run_2, if_neg (by rw [iLe (by omega) (by omega)]; omega), g_128_13 sg, Option.bind_some, hst13]
        show (if (0 : Int32) = 0 then _ else _) = _
        rw [if_pos rfl, R_128_2 sg, Option.bind_some, g_128_12 sg, Option.bind_some, h12, e2_has q.1 hst.cde hpU, Option.bind_some]
        dsimp only
        rw [if_neg (by decide), g_128_15 sg, Option.bind_some, h15, i_add1, p_128_15 sg, Option.bind_some]
      obtain ⟨w, h1, nc1, ns1, e1, e2⟩ := hA
      rw [hstep, e1, Option.bind_some]
      dsimp only
      rw [lc_if]
      have out1 : OutG h (wr h 128 15 (Int32.ofNat (G.2.2.2.1.1 + 1))) := c1.out.1
      have pot1 : ∀ h', Pot (wr h 128 15 (Int32.ofNat (G.2.2.2.1.1 + 1))) h' nc1 ns1 → Pot h h' nc1 ns1 := fun h' z => ⟨z.1, by rw [← pileN_wr h 128 15 (Int32.ofNat (G.2.2.2.1.1 + 1))]; exact z.2⟩
      rcases e2 with ⟨e2, pc1, e3, e4, e5⟩ | ⟨e2, h2, pc1, e3, e4, e5, e6⟩
      · rw [if_pos e2]
        exact run h1 pc1 nc1 ns1 e3 (out1.trans e4) (pot1 _ e5)
      · rw [if_neg e2, e3, Option.bind_some]
        exact run h2 pc1 nc1 ns1 e4 (out1.trans e5) (pot1 _ e6)
