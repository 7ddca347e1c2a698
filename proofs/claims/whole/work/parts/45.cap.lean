/-! ===== HOW MUCH A TEXT CAN TELL ===== -/
/-- what an expression weighs: no more than its bytes -/
def wt : Tr → Nat
  | .op (.op (.var k) (.op (.var _) (.var _))) (.op a b) => wt a + wt b + (if k = 28 ∨ k = 29 then 2 else 1)
  | _ => 0
theorem wt_nd (k v w : Nat) (a b : Tr) : wt (nd k v w a b) = wt a + wt b + (if k = 28 ∨ k = 29 then 2 else 1) := rfl
theorem wt_nl : wt nl = 0 := rfl
theorem wt_un {k : Nat} (v w : Nat) (a : Tr) (h : ¬ (k = 28 ∨ k = 29)) : wt (eUn k v w a) = wt a + 1 := by
  unfold eUn
  rw [wt_nd, if_neg h, wt_nl]
theorem wt_bin {k : Nat} (a b : Tr) (h : ¬ (k = 28 ∨ k = 29)) : wt (eBin k a b) = wt a + wt b + 1 := by
  unfold eBin
  rw [wt_nd, if_neg h]
theorem wt_leaf {k : Nat} (v w : Nat) (h : ¬ (k = 28 ∨ k = 29)) : wt (eLeaf k v w) = 1 := by
  unfold eLeaf
  rw [wt_nd, if_neg h, wt_nl]
theorem wt_arg (a b : Tr) : wt (eArg a b) = wt a + wt b + 1 := rfl
theorem wt_call (n w : Nat) (s : Tr) : wt (eCall n w s) = wt s + 1 := rfl
def Tks.Cap (S : Tks) (p : Nat → Pr Tr) : Prop := ∀ t x t', p t = ok x t' → wt x + S.P t ≤ S.P t'
theorem Tks.mono_k {S : Tks} {t : Nat} {k : Int32} (h : S.K t = k) (hk : k ≠ 0) : S.P t + 1 ≤ S.P (t + 1) := S.mono t (by rw [h]; exact hk)
theorem opc_big {k : Int32} (h : opc k = 28 ∨ opc k = 29) : k = 131 ∨ k = 132 := by
  by_cases h1 : k = 132
  · exact Or.inr h1
  · by_cases h2 : k = 131
    · exact Or.inl h2
    · exfalso
      unfold opc at h
      rw [if_neg h1, if_neg h2] at h
      revert h
      repeat' split
      all_goals decide
theorem Tks.wt_mk2 {S : Tks} {t : Nat} (x y : Tr) (hl : lvl (S.K t) ≠ 0) : wt (mk2 (S.K t) x y) + S.P t ≤ wt x + wt y + S.P (t + 1) := by
  unfold mk2 eBin
  rw [wt_nd]
  split
  · rename_i h2
    have := S.two t (opc_big h2)
    omega
  · have : S.P t + 1 ≤ S.P (t + 1) := S.mono t (fun z => hl (by rw [z]; rfl))
    omega
theorem Tks.lp_cap {S : Tks} {s : Nat → Pr Tr} (hs : S.Cap s) {l : Nat} (hl : l ≠ 0) : ∀ (f : Nat) (x : Tr) (t : Nat) (y : Tr) (t' : Nat), S.lp s l f x t = ok y t' → wt y + S.P t ≤ wt x + S.P t'
  | 0, x, t, y, t', h => by
    unfold Tks.lp at h
    obtain ⟨h1, h2⟩ := ok_inj h
    subst h1 h2
    exact Nat.le_refl _
  | f + 1, x, t, y, t', h => by
    unfold Tks.lp at h
    split at h
    · obtain ⟨h1, h2⟩ := ok_inj h
      subst h1 h2
      exact Nat.le_refl _
    · rename_i hlv
      have hlv : lvl (S.K t) = l := Decidable.not_not.mp hlv
      split at h
      · rename_i hk
        split at h
        · rename_i h3
          obtain ⟨h1, h2⟩ := ok_inj h
          have := Tks.mono_k hk (by decide)
          have : S.P (t + 1) + 1 ≤ S.P (t + 2) := Tks.mono_k h3 (by decide)
          subst h1 h2
          show wt (eUn 16 0 (t + 1) x) + S.P t ≤ _
          rw [wt_un 0 (t + 1) x (by decide)]
          omega
        · exact (no_ok h).elim
      · obtain ⟨a, u, h1, h2⟩ := Pr.bind_eq_ok h
        have h3 := hs _ _ _ h1
        have h4 := Tks.wt_mk2 (S := S) (t := t) x a (by omega)
        split at h2
        · obtain ⟨h5, h6⟩ := ok_inj h2
          subst h5 h6
          omega
        · have := Tks.lp_cap hs hl f _ u y t' h2
          omega
theorem Tks.lv_cap {S : Tks} {s : Nat → Pr Tr} (hs : S.Cap s) : ∀ i, i ≤ 6 → S.Cap (S.lv s i)
  | 0, _ => hs
  | i + 1, hi => by
    intro t x t' h
    obtain ⟨a, u, h1, h2⟩ := Pr.bind_eq_ok (show (S.lv s i t).bind _ = _ from h)
    have h3 := Tks.lv_cap hs i (by omega) _ _ _ h1
    have := Tks.lp_cap (Tks.lv_cap hs i (by omega)) (by omega) _ _ _ _ _ h2
    omega
theorem Tks.argl_cap {S : Tks} {sub : Nat → Pr Tr} (hs : S.Cap sub) : ∀ (f : Nat) (s : Tr) (n t : Nat) (y : Tr × Nat) (t' : Nat), S.argl sub f s n t = ok y t' → wt y.1 + S.P t ≤ wt s + S.P t'
  | 0, s, n, t, y, t', h => (no_ok h).elim
  | f + 1, s, n, t, y, t', h => by
    unfold Tks.argl at h
    obtain ⟨a, u, h1, h2⟩ := Pr.bind_eq_ok h
    have h3 := hs _ _ _ h1
    split at h2
    · rename_i h5
      have h6 := Tks.argl_cap hs f _ _ _ _ _ h2
      have h7 := wt_arg s a
      have := Tks.mono_k h5 (by decide)
      omega
    · split at h2
      · rename_i h5
        obtain ⟨h6, h7⟩ := ok_inj h2
        have := Tks.mono_k h5 (by decide)
        subst h6 h7
        show wt (eArg s a) + _ ≤ _
        rw [wt_arg]
        omega
      · exact (no_ok h2).elim
theorem Tks.args_cap {S : Tks} {sub : Nat → Pr Tr} (hs : S.Cap sub) {r : Nat} {s : Tr} {t : Nat} {y : Tr × Nat} {t' : Nat} (h : S.args r sub s t = ok y t') : wt y.1 + 1 + S.P t ≤ wt s + S.P t' := by
  unfold Tks.args at h
  split at h
  · exact (no_ok h).elim
  · rename_i h0
    have h1 : S.P t + 1 ≤ S.P (t + 1) := Tks.mono_k (Decidable.not_not.mp (fun z => h0 (Or.inl z))) (by decide)
    split at h
    · rename_i h5
      obtain ⟨h6, h7⟩ := ok_inj h
      have : S.P (t + 1) + 1 ≤ S.P (t + 2) := Tks.mono_k h5 (by decide)
      subst h6 h7
      show wt s + 1 + _ ≤ _
      omega
    · have := Tks.argl_cap hs _ _ _ _ _ _ h
      omega
theorem Tks.brk_cap {S : Tks} {sub : Nat → Pr Tr} (hs : S.Cap sub) {r : Nat} {a b : Int32} (ha : a ≠ 0) (hb : b ≠ 0) {t : Nat} {x : Tr} {t' : Nat} (h : S.brk r sub a b t = ok x t') : wt x + 2 + S.P t ≤ S.P t' := by
  unfold Tks.brk at h
  split at h
  · exact (no_ok h).elim
  · rename_i h0
    have h1 : S.P t + 1 ≤ S.P (t + 1) := Tks.mono_k (Decidable.not_not.mp (fun z => h0 (Or.inl z))) ha
    obtain ⟨y, u, h3, h2⟩ := Pr.bind_eq_ok h
    have h4 := hs _ _ _ h3
    split at h2
    · rename_i h5
      obtain ⟨h6, h7⟩ := ok_inj h2
      have := Tks.mono_k h5 hb
      subst h6 h7
      omega
    · exact (no_ok h2).elim
theorem Tks.first_cap {S : Tks} {sub : Nat → Pr Tr} (hs : S.Cap sub) (r : Nat) : S.Cap (S.first r sub) := by
  intro t x t' h
  have one : ∀ {k : Int32}, S.K t = k → k ≠ 0 → S.P t + 1 ≤ S.P (t + 1) := fun h1 h2 => Tks.mono_k h1 h2
  unfold Tks.first at h
  repeat' split at h
  all_goals first
    | (exact (no_ok h).elim)
    | (obtain ⟨h6, h7⟩ := ok_inj h; rename_i h5; have := Tks.mono_k h5 (by decide); subst h6 h7; rw [wt_leaf _ _ (by decide)]; omega)
    | skip
  · rename_i h5 _
    obtain ⟨y, u, h1, h2⟩ := Pr.bind_eq_ok h
    have := Tks.args_cap hs h1
    obtain ⟨h6, h7⟩ := ok_inj h2
    have := one h5 (by decide)
    subst h6 h7
    have e := wt_call y.2 t y.1
    have e2 : wt eSelf = 1 := rfl
    omega
  · rename_i h5 h8
    obtain ⟨h6, h7⟩ := ok_inj h
    have := one h5 (by decide)
    subst h6 h7
    rw [wt_leaf _ _ (by decide)]
    omega
  · have := Tks.brk_cap hs (by decide) (by decide) h
    omega
  · rename_i h5 h8
    obtain ⟨y, u, h1, h2⟩ := Pr.bind_eq_ok h
    have := Tks.brk_cap hs (by decide) (by decide) h1
    obtain ⟨h6, h7⟩ := ok_inj h2
    have := one h5 (by decide)
    have := Tks.mono_k h8 (by decide)
    have h9 : S.P (t + 1) + 1 ≤ S.P (t + 1 + 1) := this
    subst h6 h7
    rw [wt_un 0 0 y (by decide)]
    have : S.P (t + 2) = S.P (t + 1 + 1) := rfl
    omega
  · rename_i h5 h8 h9
    obtain ⟨h6, h7⟩ := ok_inj h
    have := one h5 (by decide)
    have : S.P (t + 1) + 1 ≤ S.P (t + 2) := Tks.mono_k h9 (by decide)
    subst h6 h7
    rw [wt_leaf _ _ (by decide)]
    omega
theorem Tks.chn_cap {S : Tks} {sub : Nat → Pr Tr} (hs : S.Cap sub) (r : Nat) : ∀ (f : Nat) (x : Tr) (t : Nat) (y : Tr) (t' : Nat), S.chn r sub f x t = ok y t' → wt y + S.P t ≤ wt x + S.P t'
  | 0, x, t, y, t', h => by
    unfold Tks.chn at h
    obtain ⟨h1, h2⟩ := ok_inj h
    subst h1 h2
    exact Nat.le_refl _
  | f + 1, x, t, y, t', h => by
    unfold Tks.chn at h
    split at h
    · rename_i h0
      have h0 := Tks.mono_k h0 (by decide)
      split at h
      · exact (no_ok h).elim
      · rename_i h1
        have h2 : S.P (t + 1) + 1 ≤ S.P (t + 2) := Tks.mono_k (Decidable.not_not.mp h1) (by decide)
        split at h
        · obtain ⟨a, u, h3, h4⟩ := Pr.bind_eq_ok h
          have h5 := Tks.args_cap hs h3
          have h6 := Tks.chn_cap hs r f _ u y t' h4
          have e := wt_call a.2 (t + 1) a.1
          omega
        · have h6 := Tks.chn_cap hs r f _ _ y t' h
          have e := wt_un (k := 9) 0 (t + 1) x (by decide)
          omega
    · split at h
      · obtain ⟨a, u, h3, h4⟩ := Pr.bind_eq_ok h
        have h5 := Tks.brk_cap hs (by decide) (by decide) h3
        have h6 := Tks.chn_cap hs r f _ u y t' h4
        have e := wt_bin (k := 12) x a (by decide)
        omega
      · split at h
        · rename_i h0
          have h0 := Tks.mono_k h0 (by decide)
          split at h
          · exact (no_ok h).elim
          · rename_i h1
            have h2 : S.P (t + 1) + 1 ≤ S.P (t + 2) := Tks.mono_k (Decidable.not_not.mp h1) (by decide)
            have h6 := Tks.chn_cap hs r f _ _ y t' h
            have e := wt_un (k := 15) 0 (t + 1) x (by decide)
            omega
        · obtain ⟨h1, h2⟩ := ok_inj h
          subst h1 h2
          exact Nat.le_refl _
theorem Tks.chain_cap {S : Tks} {sub : Nat → Pr Tr} (hs : S.Cap sub) (r : Nat) : S.Cap (S.chain r sub) := by
  intro t x t' h
  obtain ⟨y, u, h1, h2⟩ := Pr.bind_eq_ok h
  have h3 := Tks.first_cap hs _ _ _ _ h1
  have := Tks.chn_cap hs _ _ _ _ _ _ h2
  omega
theorem Tks.sgl_cap (S : Tks) : ∀ r, S.Cap (S.sgl r)
  | 0 => by
    intro t x t' h
    unfold Tks.sgl at h
    split at h
    · exact (no_ok h).elim
    · exact Tks.chain_cap (fun t x t' h => (no_ok h).elim) 0 _ _ _ h
  | r + 1 => by
    intro t x t' h
    unfold Tks.sgl at h
    split at h
    · rename_i h0
      obtain ⟨y, u, h1, h2⟩ := Pr.bind_eq_ok h
      have h3 := Tks.sgl_cap S r _ _ _ h1
      obtain ⟨h6, h7⟩ := ok_inj h2
      have : S.P t + 1 ≤ S.P (t + 1) := h0.elim (fun z => Tks.mono_k z (by decide)) (fun z => Tks.mono_k z (by decide))
      subst h6 h7
      have e : wt (eUn (if S.K t = 45 then 17 else 18) 0 0 y) = wt y + 1 := wt_un _ _ _ (by split <;> decide)
      omega
    · exact Tks.chain_cap (Tks.lv_cap (Tks.sgl_cap S r) 6 (by omega)) _ _ _ _ h
theorem Tks.expr_cap (S : Tks) (r : Nat) : S.Cap (S.expr r) := Tks.lv_cap (Tks.sgl_cap S r) 6 (by omega)
