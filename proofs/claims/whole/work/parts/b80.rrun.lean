/-! ===== THE REFERENCE runs ===== -/
section RU
variable {P : Pgm} {S : Tks} {D : List Int32 → Prop} {num : List Int32 → Nat} {N : Nat} {g h : pH} {G : Gs}
theorem sil_1 {i : Nat × Nat × Nat} {lo : List Vl} {ops : List (Bool × Vl)} {E E' : EnvV} {k : Nat} {bb : Tr} {z : Bool} {ks : List Si} {fs : List Fm} {c mt : Nat} {a : List (Bool × Nat)} (h9 : KH P S c mt ((k, E', bb, z) :: ks) E a) (hs : P.sil G (i, lo, ops, E, [], (k, E', bb, z) :: ks) fs = none) : k = 1 := by
  unfold Pgm.sil at hs
  dsimp only at hs
  unfold KH at h9
  dsimp only at h9
  refine Classical.byContradiction fun z1 => ?_
  rw [if_neg z1] at h9
  by_cases z5 : k = 5
  · subst z5
    rw [if_neg (by omega), if_neg (by omega), if_neg (by omega), if_neg (by omega), if_pos rfl] at hs
    cases hs
  · rw [if_neg z5] at h9
    have hk := h9.2
    unfold KT at hk
    by_cases z0 : k = 0
    · rw [if_pos z0] at hs; cases hs
    · rw [if_neg z0] at hk hs
      by_cases z2 : k = 2
      · rw [if_pos z2] at hs; cases hs
      · rw [if_neg z2] at hk hs
        by_cases z3 : k = 3
        · rw [if_pos z3] at hs; cases hs
        · rw [if_neg z3] at hk hs
          by_cases z4 : k = 4
          · rw [if_pos z4] at hs; cases hs
          · rw [if_neg z4] at hk
            exact hk
theorem RRs.sg {σ : Mst} (q : RRs P S num g h σ) : StV g h ∧ rd h 138 70 = cod σ ∧ rd h 138 69 = 1 ∧ CnR σ.1 h := by
  match σ, q with
  | (G, .inl fs), hr =>
    obtain ⟨t, h70, -, B, O, L, lt, pt, trs, hb, -⟩ := hr
    exact ⟨hb.1, h70, hb.2.2.1, hb.2.1⟩
  | (G, .inr (k, a)), hr => exact ⟨hr.1, hr.2.2.2.1, hr.2.2.1, hr.2.1⟩
theorem RRt.sg {σ : Mst} (q : RRt P S num g h σ) : StV g h ∧ rd h 138 70 = cod σ ∧ rd h 138 69 = 1 ∧ CnR σ.1 h := by
  match σ, q with
  | (G, .inl fs), hr =>
    obtain ⟨t, ⟨h70, -, B, O, L, lt, pt, trs, hb, -⟩, -⟩ := hr
    exact ⟨hb.1, h70, hb.2.2.1, hb.2.1⟩
  | (G, .inr (k, a)), hr => exact ⟨hr.1, hr.2.2.2.1, hr.2.2.1, hr.2.1⟩
/-- behind the step -/
theorem step_93 {h2 : pH} {σ : Mst} (hN : 100000000000 ≤ N) (hst : Stw P S D num g) (hg : GdM P S σ) (hr : RRs P S num g h2 σ) : ∃ n τ h', fX12_stepOnce_93 N 138 h2 = some h' ∧ P.Sls n σ τ ∧ GdM P S τ ∧ RRt P S num g h' τ ∧ Chg fmA h2 h' := by
  have q := hr.sg
  have sg := q.1.1
  match σ, hg, hr, q with
  | (G, .inl fs), hg, hr, q =>
    obtain ⟨n, τ, h', a1, a2, a3, a4, a5⟩ := rsettle (N := N) hN hst.1.1.2.2.2.2.1 hg hr
    refine ⟨n, τ, h', ?_, a1, a2, a4, a5⟩
    unfold fX12_stepOnce_93
    rw [g_138_70 sg, Option.bind_some, q.2.1]
    show (if (0 : Int32) = 0 then _ else _) = _
    rw [if_pos rfl, a3, Option.bind_some]
  | (G, .inr (k, a)), hg, hr, q =>
    have hk := hr.2.2.2.2.2.2.2
    refine ⟨0, (G, .inr (k, a)), h2, ?_, ⟨rfl, trivial⟩, hg, hr, Chg.refl _ _⟩
    unfold fX12_stepOnce_93
    rw [g_138_70 sg, Option.bind_some, q.2.1]
    show (if Int32.ofNat k = 0 then _ else _) = _
    rw [if_neg (by rw [iZ (by omega)]; omega)]
theorem ract {f : Fm} {fs : List Fm} (hN : 100000000000 ≤ N) (hst : Stw P S D num g) (hg : GdM P S (G, .inl (f :: fs))) (hsil : P.sil G f fs = none) (hpr : G.2.2.1.length < 2000000000) (hr : RRt P S num g h (G, .inl (f :: fs))) : ∃ n τ h', fX12_stepOnce N 138 h = some h' ∧ P.Sls n (P.act (cntS G) f fs) τ ∧ GdM P S τ ∧ RRt P S num g h' τ ∧ Chg rnA h h' := by
  obtain ⟨t, hq, htd, htl⟩ := hr
  have hga := act_good hst.1.1 (cnt_good hg) (sil_cnt hsil)
  obtain ⟨ho, ⟨hf, hfs⟩, -, hlen, hH⟩ := id hg
  have hl1 : fs.length + 1 ≤ 100 := hlen
  have key : ∃ it T h1 h2, t = it :: T ∧ Chg cuA h h1 ∧ (fX12_stepOnce N 138 h = if Int32.ofNat it.1 = 0 then (fX12_leaf N 138 it.2 h1).bind fun h17 => fX12_stepOnce_93 N 138 h17 else if Int32.ofNat it.1 = 1 then (fX12_work N 138 it.2 h1).bind fun h17 => fX12_stepOnce_93 N 138 h17 else if Int32.ofNat it.1 = 2 then (fX12_half N 138 it.2 h1).bind fun h17 => fX12_stepOnce_93 N 138 h17 else (fX12_done N 138 it.2 h1).bind fun h17 => fX12_stepOnce_93 N 138 h17) ∧ (if Int32.ofNat it.1 = 0 then fX12_leaf N 138 it.2 h1 else if Int32.ofNat it.1 = 1 then fX12_work N 138 it.2 h1 else if Int32.ofNat it.1 = 2 then fX12_half N 138 it.2 h1 else fX12_done N 138 it.2 h1) = some h2 ∧ RRs P S num g h2 (P.act (cntS G) f fs) ∧ Chg rnA h1 h2 := by
    obtain ⟨i, lo, ops, E, xs, ks⟩ := f
    match xs, hf, hsil, hq, htd with
    | x :: xs, hf, hsil, hq, htd =>
      obtain ⟨it, t1, t2, t3, et, s1, s2, s3, s4, s5⟩ := htd
      subst et
      rw [List.length_cons] at htl
      obtain ⟨r1, r2, r3⟩ := r_take (N := N) hq (by omega)
      obtain ⟨h2, a1, a2, a3⟩ := ract_X (N := N) (G := cntS G) (by omega) hst ho hf hfs hl1 r1 rfl (by omega) s1 s2 s3 s4 s5
      exact ⟨it, _, _, h2, rfl, r2, r3, a1, a2, a3⟩
    | [], hf, hsil, hq, htd =>
      obtain ⟨t1, t2, t3, et, s2, s3, s4, s5⟩ := htd
      have et : t = t1 ++ (t2 ++ (8, Int32.ofNat i.2.1) :: t3) := et
      have s2 : TdX P S num i.1 E g t1 [] := s2
      have s4 : TdK P num i.1 (P.mty i.2.1) g ks t2 := s4
      obtain rfl := s2.nil
      match ks, hf, hsil, hq, s4 with
      | [], hf, hsil, hq, s4 => cases hsil
      | (k, E', bb, z) :: ks, hf, hsil, hq, s4 =>
        have h9 : KH P S i.1 (P.mty i.2.1) ((k, E', bb, z) :: ks) E _ := hf.2.2.2.2.2.2.1.choose_spec.choose_spec.2.2
        obtain rfl := sil_1 h9 hsil
        have hE : E = E' := h9.1
        subst hE
        obtain ⟨u1, u2, eu, v1, v2⟩ := s4
        have v1' := v1
        rw [KtI_eq, if_neg (by omega), if_pos rfl] at v1'
        obtain ⟨o, s, m, ll, hrt, e1⟩ := v1'
        subst e1
        subst eu
        have et : t = (4, Int32.ofNat s) :: (u2 ++ (8, Int32.ofNat i.2.1) :: t3) := et
        subst et
        rw [List.length_cons, List.length_append, List.length_cons] at htl
        obtain ⟨r1, r2, r3⟩ := r_take (N := N) hq (by rw [List.length_append, List.length_cons]; omega)
        obtain ⟨h2, a1, a2, a3⟩ := ract_S (N := N) (G := cntS G) (by omega) hst ho hpr hf hfs hl1 r1 (by omega) v1 v2 s5
        refine ⟨_, _, _, h2, rfl, r2, r3, ?_, a2, a3⟩
        dsimp only
        rw [if_neg (show ¬ Int32.ofNat 4 = 0 by decide), if_neg (show ¬ Int32.ofNat 4 = 1 by decide), if_neg (show ¬ Int32.ofNat 4 = 2 by decide)]
        exact a1
  obtain ⟨it, T, h1, h2, et, k1, k2, k3, k4, k5⟩ := key
  obtain ⟨n, τ, h', b1, b2, b3, b4, b5⟩ := step_93 hN hst hga k4
  refine ⟨n, τ, h', ?_, b2, b3, b4, ((k1.mono (fun a k z => by unfold cuA at z; unfold rnA; omega)).trans k5).trans (b5.mono fmA.rn)⟩
  rw [k2]
  by_cases z0 : Int32.ofNat it.1 = 0
  · rw [if_pos z0] at k3 ⊢
    rw [k3, Option.bind_some, b1]
  rw [if_neg z0] at k3 ⊢
  by_cases z1 : Int32.ofNat it.1 = 1
  · rw [if_pos z1] at k3 ⊢
    rw [k3, Option.bind_some, b1]
  rw [if_neg z1] at k3 ⊢
  by_cases z2 : Int32.ofNat it.1 = 2
  · rw [if_pos z2] at k3 ⊢
    rw [k3, Option.bind_some, b1]
  rw [if_neg z2] at k3 ⊢
  rw [k3, Option.bind_some, b1]
theorem run_ref {v1 : Nat} (hN : 100000000000 ≤ N) (hst : Stw P S D num g) (hv1 : v1 ≤ 20000) : ∀ (k d v2 : Nat) (σ : Mst) (h : pH), v2 + k = v1 → k < d → GdM P S σ → P.Sls 0 σ σ → RRt P S num g h σ → prN σ + k < 2000000000 → ∃ h' τ, fX12_step_23 N d 138 (Int32.ofNat v1) (Int32.ofNat v2) h = some (cod τ, h') ∧ P.RunS k σ τ ∧ RRt P S num g h' τ ∧ GdM P S τ ∧ P.Sls 0 τ τ ∧ Chg rnA h h' ∧ prN τ ≤ prN σ + k
  | 0, d, v2, σ, h, e, hd, hg, hs, hr, hp => by
    obtain ⟨d, rfl⟩ : ∃ d', d = d' + 1 := ⟨d - 1, by omega⟩
    have q := hr.sg
    refine ⟨h, σ, ?_, rfl, hr, hg, hs, Chg.refl _ _, Nat.le_refl _⟩
    rw [fX12_step_23, if_pos (by rw [iLe (by omega) (by omega)]; omega), g_138_70 q.1.1, Option.bind_some, q.2.1]
  | k + 1, d, v2, σ, h, e, hd, hg, hs, hr, hp => by
    obtain ⟨d, rfl⟩ : ∃ d', d = d' + 1 := ⟨d - 1, by omega⟩
    have q := hr.sg
    match σ, hg, hs, hr, hp, q with
    | (G, .inl []), hg, hs, hr, hp, q => exact absurd rfl hg.2.2.1
    | (G, .inr (kk, a)), hg, hs, hr, hp, q =>
      have hk := hr.2.2.2.2.2.2.2
      refine ⟨h, (G, .inr (kk, a)), ?_, rfl, hr, hg, hs, Chg.refl _ _, by omega⟩
      rw [fX12_step_23, if_neg (by rw [iLe (by omega) (by omega)]; omega), g_138_70 q.1.1, Option.bind_some, q.2.1]
      show (if Int32.ofNat kk = 0 then _ else _) = _
      rw [if_neg (by rw [iZ (by omega)]; omega), Option.bind_some]
    | (G, .inl (f :: fs)), hg, hs, hr, hp, q =>
      have hsil : P.sil G f fs = none := hs.2
      have hp : G.2.2.1.length + (k + 1) < 2000000000 := hp
      obtain ⟨n, σ2, h2, a1, a2, a3, a4, a5⟩ := ract (N := N) hN hst hg hsil (by omega) hr
      have hpa : prN (P.act (cntS G) f fs) ≤ G.2.2.1.length + 1 := act_pr (cnt_good hg) (sil_cnt hsil)
      have hp2 : prN σ2 ≤ G.2.2.1.length + 1 := by
        have : prN σ2 = prN (P.act (cntS G) f fs) := by unfold prN; rw [Sls_G a2]
        omega
      obtain ⟨h3, τ, b1, b2, b3, b4, b5, b6, b7⟩ := run_ref hN hst hv1 k d (v2 + 1) σ2 h2 (by omega) (by omega) a3 (Sls_stl a2) a4 (by omega)
      refine ⟨h3, τ, ?_, ⟨n, σ2, a2, b2⟩, b3, b4, b5, a5.trans b6, ?_⟩
      · rw [fX12_step_23, if_neg (by rw [iLe (by omega) (by omega)]; omega), g_138_70 q.1.1, Option.bind_some, q.2.1]
        show (if (0 : Int32) = 0 then _ else _) = _
        rw [if_pos rfl, a1, Option.bind_some, i_add1, b1]
      · have e : prN (G, Sum.inl (f :: fs)) = G.2.2.1.length := rfl
        omega
end RU
