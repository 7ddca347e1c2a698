/-! ===== WHAT IS NO STEP comes to an end ===== -/
def sM : Tr → Nat := foldB 1 1 (fun _ _ _ _ R => 1 + R) (fun _ _ _ e _ R => cl e + 2 + R) (fun _ x e _ R => cl x + cl e + 2 + R) (fun _ e _ _ _ _ _ _ R => cl e + 2 + R) (fun _ e _ _ _ R => cl e + 2 + R) (fun _ _ A _ _ _ _ _ R => A + 3 + R) (fun _ _ e _ R => cl e + 2 + R)
def sI (s : Si) : Nat := if s.1 = 0 then sM s.2.2.1 else if s.1 = 3 then cl (whlE s.2.2.1) + 2 else 1
def sKs : List Si → Nat
  | [] => 0
  | s :: ks => sI s + sKs ks
def sF : List Fm → Nat
  | [] => 0
  | (_, _, _, _, xs, ks) :: fs => xw xs + sKs ks + 1 + sF fs
def sMst : Mst → Nat
  | (_, .inl fs) => sF fs
  | (_, .inr _) => 0
theorem cl_pp' (x : Tr) : cl (pp x) ≤ cl x := by
  unfold pp
  split
  · rename_i k v w a b
    show cl a + cl b + 0 ≤ cl (nd k v w a b)
    rw [cl_nd]
    omega
  · exact Nat.zero_le _
theorem sM_k {k : Nat} (hk : k = 40 ∨ k = 41 ∨ k = 42 ∨ k = 43 ∨ k = 52) (p : Nat) (e r : Tr) : sM (nd k p 0 e r) = cl e + 2 + sM r := by
  rcases hk with rfl | rfl | rfl | rfl | rfl <;> rfl
theorem stU_M {S : Tks} (P : Pgm) (c mt : Nat) : ∀ (n : Nat) (b : Tr) (E : EnvV) (lo : List Vl) (ks : List Si), GK S n b → xw (P.stU c mt b E lo ks).2.2.1 + sKs (P.stU c mt b E lo ks).2.2.2 + 1 ≤ sM b + sKs ks := by
  intro n b E lo ks hk
  have h0 : ∀ E b z ks, sKs ((0, E, b, z) :: ks) = sM b + sKs ks := fun E b z ks => rfl
  have h1 : ∀ (E : EnvV) (b : Tr) (z : Bool) ks, sKs ((1, E, b, z) :: ks) = 1 + sKs ks := fun E b z ks => rfl
  have h2 : ∀ (E : EnvV) (b : Tr) (z : Bool) ks, sKs ((2, E, b, z) :: ks) = 1 + sKs ks := fun E b z ks => rfl
  have h4 : ∀ (E : EnvV) (b : Tr) (z : Bool) ks, sKs ((4, E, b, z) :: ks) = 1 + sKs ks := fun E b z ks => rfl
  have h5 : ∀ (E : EnvV) (b : Tr) (z : Bool) ks, sKs ((5, E, b, z) :: ks) = 1 + sKs ks := fun E b z ks => rfl
  have hnl : xw (P.stU c mt nl E lo ks).2.2.1 + sKs (P.stU c mt nl E lo ks).2.2.2 + 1 ≤ sM nl + sKs ks := by
    show 0 + sKs ks + 1 ≤ 1 + sKs ks
    omega
  match n, hk with
  | 0, hk =>
    obtain rfl : b = nl := hk
    exact hnl
  | n + 1, hk =>
    rcases hk with rfl | ⟨p, y, w, r, rfl, g1, g2, hkr⟩ | ⟨p, y, w, e, r, rfl, g1, g2, g3, hkr⟩ | ⟨p, k, e, r, rfl, hkk, hkr⟩ | ⟨p, x, e, r, rfl, g1, g2, g3, hkr⟩ | ⟨p, e, a, f, b, r, rfl, hf, g1, ha, hb, hkr⟩ | ⟨p, e, a, r, rfl, g1, ha, hkr⟩ | ⟨p, a, cw, w, b, r, rfl, g1, g2, ha, hb, hkr⟩
    · exact hnl
    · show 0 + sKs ((0, P.nxE c mt (bTell p y w r) E, r, false) :: ks) + 1 ≤ 1 + sM r + sKs ks
      rw [h0]; omega
    · show xw (P.flX c E e) + sKs ((1, E, bTellv p y w e r, false) :: (0, P.nxE c mt (bTellv p y w e r) E, r, false) :: ks) + 1 ≤ cl e + 2 + sM r + sKs ks
      rw [h1, h0, xw_fl]; omega
    · rw [stU_k (GKk hkk), sM_k (GKk hkk)]
      dsimp only
      split
      · rw [h5, h0, xw_fl]; omega
      · rw [h1, h0, xw_fl]; omega
    · show xw (P.flX c E (nd 70 0 0 (pp x) e)) + sKs ((1, E, bGive p x e r, false) :: (0, P.nxE c mt (bGive p x e r) E, r, false) :: ks) + 1 ≤ cl x + cl e + 2 + sM r + sKs ks
      have := cl_pp' x
      have e1 : cl (nd 70 0 0 (pp x) e) = cl (pp x) + cl e + 0 := rfl
      rw [h1, h0, xw_fl, e1]; omega
    · show xw (P.flX c E e) + sKs ((1, E, bIte p e a f b r, false) :: (0, P.nxE c mt (bIte p e a f b r) E, r, false) :: ks) + 1 ≤ cl e + 2 + sM r + sKs ks
      rw [h1, h0, xw_fl]; omega
    · show xw (P.flX c E e) + sKs ((1, E, bWhil p e a r, false) :: (0, P.nxE c mt (bWhil p e a r) E, r, false) :: ks) + 1 ≤ cl e + 2 + sM r + sKs ks
      rw [h1, h0, xw_fl]; omega
    · show 0 + sKs ((0, E, a, false) :: (2, P.nxE c mt (bTry p a cw w b r) E, nl, false) :: (4, E, bTry p a cw w b r, false) :: (0, P.nxE c mt (bTry p a cw w b r) E, r, false) :: ks) + 1 ≤ sM a + 3 + sM r + sKs ks
      rw [h0, h2, h4, h0]; omega
theorem sil_M {P : Pgm} {S : Tks} {G : Gs} {f : Fm} {fs : List Fm} {σ : Mst} (hg : GdM P S (G, .inl (f :: fs))) (h : P.sil G f fs = some σ) : sMst σ + 1 ≤ sF (f :: fs) := by
  obtain ⟨i, lo, ops, E, xs, ks⟩ := f
  have hft := hg.2.1.1
  have hF : ∀ i lo ops E xs ks fs, sF ((i, lo, ops, E, xs, ks) :: fs) = xw xs + sKs ks + 1 + sF fs := fun _ _ _ _ _ _ _ => rfl
  match xs, ks, h, hft with
  | .inl (k, v, w, s, l) :: xs, ks, h, _ =>
    have hx : xw (.inl (k, v, w, s, l) :: xs) = 1 + xw xs := rfl
    unfold Pgm.sil at h
    dsimp only at h
    split at h
    · obtain rfl := Option.some.inj h
      show sF _ + 1 ≤ _
      rw [hF, hF, hx]; omega
    · split at h
      · obtain rfl := Option.some.inj h
        show sF _ + 1 ≤ _
        rw [hF, hF, hx]; omega
      · cases h
  | .inr _ :: xs, ks, h, _ => cases h
  | [], [], h, _ =>
    obtain rfl := Option.some.inj h
    rw [hF]
    match fs with
    | [] => show 0 + 1 ≤ _; omega
    | (i, lo, ops, E, xs, ks) :: fs =>
      show sF ((i, lo, (true, Sum.inl 0) :: ops, E, xs, ks) :: fs) + 1 ≤ _
      rw [hF, hF]
      show _ ≤ 0 + 0 + 1 + _
      omega
  | [], (k, E', b, z) :: ks, h, hft =>
    have hk : sKs ((k, E', b, z) :: ks) = sI (k, E', b, z) + sKs ks := rfl
    unfold Pgm.sil at h
    dsimp only at h
    have hx : xw ([] : List Xi) = 0 := rfl
    by_cases k0 : k = 0
    · subst k0
      rw [if_pos rfl] at h
      obtain rfl := Option.some.inj h
      show sF ((i, (P.stU i.1 (P.mty i.2.1) b E' lo ks).1, ops, (P.stU i.1 (P.mty i.2.1) b E' lo ks).2.1, (P.stU i.1 (P.mty i.2.1) b E' lo ks).2.2.1, (P.stU i.1 (P.mty i.2.1) b E' lo ks).2.2.2) :: fs) + 1 ≤ _
      obtain ⟨_, _, _, _, _, _, ⟨a, a', _, _, h9⟩, _⟩ := hft
      have h9 : KH P S i.1 (P.mty i.2.1) ((0, E', b, z) :: ks) E a' := h9
      unfold KH at h9
      dsimp only at h9
      rw [if_neg (by omega), if_neg (by omega)] at h9
      have hk9 := h9.2
      unfold KT at hk9
      rw [if_pos rfl] at hk9
      obtain ⟨n, gk⟩ := hk9.2.1
      have := stU_M P i.1 (P.mty i.2.1) n b E' lo ks gk
      rw [hF, hF]
      show _ ≤ 0 + (sM b + sKs ks) + 1 + sF fs
      omega
    · rw [if_neg k0] at h
      by_cases k2 : k = 2
      · subst k2
        rw [if_pos rfl] at h
        obtain rfl := Option.some.inj h
        show sF _ + 1 ≤ _
        rw [hF, hF]
        show 0 + sKs ks + 1 + sF fs + 1 ≤ 0 + (1 + sKs ks) + 1 + sF fs
        omega
      · rw [if_neg k2] at h
        by_cases k3 : k = 3
        · subst k3
          rw [if_pos rfl] at h
          obtain rfl := Option.some.inj h
          show sF _ + 1 ≤ _
          rw [hF, hF, xw_fl]
          show cl (whlE b) + (1 + sKs ks) + 1 + sF fs + 1 ≤ 0 + (cl (whlE b) + 2 + sKs ks) + 1 + sF fs
          omega
        · rw [if_neg k3] at h
          by_cases k4 : k = 4
          · subst k4
            rw [if_pos rfl] at h
            obtain rfl := Option.some.inj h
            show sF _ + 1 ≤ _
            rw [hF, hF]
            show 0 + sKs ks + 1 + sF fs + 1 ≤ 0 + (1 + sKs ks) + 1 + sF fs
            omega
          · rw [if_neg k4] at h
            by_cases k5 : k = 5
            · subst k5
              rw [if_pos rfl] at h
              obtain rfl := Option.some.inj h
              show sF _ + 1 ≤ _
              rw [hF, hF]
              show 0 + sKs ks + 1 + sF fs + 1 ≤ 0 + (1 + sKs ks) + 1 + sF fs
              omega
            · rw [if_neg k5] at h
              cases h
/-- it settles -/
theorem settles {P : Pgm} {S : Tks} : ∀ (k : Nat) (σ : Mst), sMst σ ≤ k → GdM P S σ → ∃ n τ, n ≤ k ∧ P.Sls n σ τ ∧ GdM P S τ
  | k, (G, .inr e), _, h => ⟨0, (G, .inr e), Nat.zero_le _, ⟨rfl, trivial⟩, h⟩
  | k, (G, .inl []), _, h => absurd rfl h.2.2.1
  | k, (G, .inl (f :: fs)), hk, h => by
    rcases hs : P.sil G f fs with _ | σ
    · exact ⟨0, (G, .inl (f :: fs)), Nat.zero_le _, ⟨rfl, hs⟩, h⟩
    · have h1 := sil_M h hs
      have hk : sF (f :: fs) ≤ k := hk
      match k, hk with
      | 0, hk => omega
      | k + 1, hk =>
        obtain ⟨n, τ, i1, i2, i3⟩ := settles k σ (by omega) (sil_good h hs)
        refine ⟨n + 1, τ, by omega, ?_, i3⟩
        show (match P.sil G f fs with
          | some σ' => P.Sls n σ' τ
          | none => False)
        rw [hs]
        exact i2
