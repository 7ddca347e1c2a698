/-! ===== EXPRESSIONS AS THE GRAMMAR MAKES THEM ===== -/
/-- what a call is of, and m arguments -/
def OkSp (P : Tr → Prop) : Nat → Tr → Prop
  | 0, s => s = eSelf ∨ P s
  | m + 1, s => ∃ a b, s = eArg a b ∧ OkSp P m a ∧ P b
theorem OkSp.mono {P Q : Tr → Prop} (h : ∀ x, P x → Q x) : ∀ {m : Nat} {s : Tr}, OkSp P m s → OkSp Q m s
  | 0, s, q => q.elim Or.inl (fun z => Or.inr (h s z))
  | m + 1, s, ⟨a, b, q1, q2, q3⟩ => ⟨a, b, q1, q2.mono h, h b q3⟩
/-- an expression of depth n -/
def OkE (S : Tks) : Nat → Tr → Prop
  | 0, _ => False
  | n + 1, x => (∃ k v, x = eLeaf k v 0 ∧ (k = 1 ∨ (k = 2 ∧ v ≤ 1) ∨ ((k = 3 ∨ k = 4 ∨ k = 5) ∧ v = 0))) ∨ (∃ k w, x = eLeaf k 0 w ∧ (k = 6 ∨ k = 13) ∧ S.K w = 22) ∨ (∃ k a, x = eUn k 0 0 a ∧ (k = 14 ∨ k = 17 ∨ k = 18) ∧ OkE S n a) ∨ (∃ k w a, x = eUn k 0 w a ∧ (k = 9 ∨ k = 15 ∨ k = 16) ∧ S.K w = 22 ∧ OkE S n a) ∨ (∃ k a b, x = eBin k a b ∧ (k = 12 ∨ (19 ≤ k ∧ k ≤ 29)) ∧ OkE S n a ∧ OkE S n b) ∨ (∃ m w s, x = eCall m w s ∧ S.K w = 22 ∧ OkSp (OkE S n) m s)
theorem OkE.succ {S : Tks} : ∀ {n : Nat} {x : Tr}, OkE S n x → OkE S (n + 1) x
  | 0, x, h => h.elim
  | n + 1, x, h => by
    rcases h with h | h | ⟨k, a, h1, h2, h3⟩ | ⟨k, w, a, h1, h2, h3, h4⟩ | ⟨k, a, b, h1, h2, h3, h4⟩ | ⟨m, w, s, h1, h2, h3⟩
    · exact Or.inl h
    · exact Or.inr (Or.inl h)
    · exact Or.inr (Or.inr (Or.inl ⟨k, a, h1, h2, h3.succ⟩))
    · exact Or.inr (Or.inr (Or.inr (Or.inl ⟨k, w, a, h1, h2, h3, h4.succ⟩)))
    · exact Or.inr (Or.inr (Or.inr (Or.inr (Or.inl ⟨k, a, b, h1, h2, h3.succ, h4.succ⟩))))
    · exact Or.inr (Or.inr (Or.inr (Or.inr (Or.inr ⟨m, w, s, h1, h2, h3.mono (fun _ z => OkE.succ z)⟩))))
theorem OkE.le {S : Tks} {n m : Nat} {x : Tr} (h : OkE S n x) (hm : n ≤ m) : OkE S m x := by
  obtain ⟨d, rfl⟩ : ∃ d, m = n + d := ⟨m - n, by omega⟩
  clear hm
  induction d with
  | zero => exact h
  | succ d ih => exact OkE.succ ih
def Ox (S : Tks) (x : Tr) : Prop := ∃ n, OkE S n x
theorem Ox.sp {S : Tks} : ∀ {m : Nat} {s : Tr}, OkSp (Ox S) m s → ∃ n, OkSp (OkE S n) m s
  | 0, s, h => by
    rcases h with h | ⟨n, h⟩
    · exact ⟨0, Or.inl h⟩
    · exact ⟨n, Or.inr h⟩
  | m + 1, s, ⟨a, b, h1, h2, n2, h3⟩ => by
    obtain ⟨n1, h4⟩ := Ox.sp h2
    exact ⟨n1 + n2, a, b, h1, h4.mono (fun _ z => z.le (by omega)), h3.le (by omega)⟩
theorem Ox.leaf {S : Tks} {k v : Nat} (h : k = 1 ∨ (k = 2 ∧ v ≤ 1) ∨ ((k = 3 ∨ k = 4 ∨ k = 5) ∧ v = 0)) : Ox S (eLeaf k v 0) := ⟨1, Or.inl ⟨k, v, rfl, h⟩⟩
theorem Ox.name {S : Tks} {k w : Nat} (h : k = 6 ∨ k = 13) (hw : S.K w = 22) : Ox S (eLeaf k 0 w) := ⟨1, Or.inr (Or.inl ⟨k, w, rfl, h, hw⟩)⟩
theorem Ox.un {S : Tks} {k : Nat} {a : Tr} (h : k = 14 ∨ k = 17 ∨ k = 18) (ha : Ox S a) : Ox S (eUn k 0 0 a) := by
  obtain ⟨n, ha⟩ := ha
  exact ⟨n + 1, Or.inr (Or.inr (Or.inl ⟨k, a, rfl, h, ha⟩))⟩
theorem Ox.unw {S : Tks} {k w : Nat} {a : Tr} (h : k = 9 ∨ k = 15 ∨ k = 16) (hw : S.K w = 22) (ha : Ox S a) : Ox S (eUn k 0 w a) := by
  obtain ⟨n, ha⟩ := ha
  exact ⟨n + 1, Or.inr (Or.inr (Or.inr (Or.inl ⟨k, w, a, rfl, h, hw, ha⟩)))⟩
theorem Ox.bin {S : Tks} {k : Nat} {a b : Tr} (h : k = 12 ∨ (19 ≤ k ∧ k ≤ 29)) (ha : Ox S a) (hb : Ox S b) : Ox S (eBin k a b) := by
  obtain ⟨n, ha⟩ := ha
  obtain ⟨m, hb⟩ := hb
  exact ⟨n + m + 1, Or.inr (Or.inr (Or.inr (Or.inr (Or.inl ⟨k, a, b, rfl, h, ha.le (by omega), hb.le (by omega)⟩))))⟩
theorem Ox.call {S : Tks} {m w : Nat} {s : Tr} (hw : S.K w = 22) (hs : OkSp (Ox S) m s) : Ox S (eCall m w s) := by
  obtain ⟨n, hs⟩ := Ox.sp hs
  exact ⟨n + 1, Or.inr (Or.inr (Or.inr (Or.inr (Or.inr ⟨m, w, s, rfl, hw, hs⟩))))⟩
/-- it is a fork, and no spine -/
theorem Ox.nd {S : Tks} {x : Tr} (h : Ox S x) : ∃ k v w a b, x = nd k v w a b ∧ 1 ≤ k ∧ k ≤ 30 := by
  obtain ⟨n, h⟩ := h
  cases n with
  | zero => exact h.elim
  | succ n =>
    rcases h with ⟨k, v, h, h2⟩ | ⟨k, w, h, h2, h3⟩ | ⟨k, a, h1, h2, h3⟩ | ⟨k, w, a, h1, h2, h3, h4⟩ | ⟨k, a, b, h1, h2, h3, h4⟩ | ⟨m, w, s, h1, h2, h3⟩
    · exact ⟨k, v, 0, nl, nl, h, by omega, by omega⟩
    · exact ⟨k, 0, w, nl, nl, h, by omega, by omega⟩
    · exact ⟨k, 0, 0, a, nl, h1, by omega, by omega⟩
    · exact ⟨k, 0, w, a, nl, h1, by omega, by omega⟩
    · exact ⟨k, 0, 0, a, b, h1, by omega, by omega⟩
    · exact ⟨30, m, w, s, nl, h1, by omega, by omega⟩
def Tks.GO (S : Tks) (p : Nat → Pr Tr) : Prop := ∀ t x t', p t = ok x t' → Ox S x
theorem Tks.lp_ox {S : Tks} {s : Nat → Pr Tr} (hs : S.GO s) : ∀ (l f : Nat) (x : Tr) (t : Nat) (y : Tr) (t' : Nat), S.lp s l f x t = ok y t' → Ox S x → Ox S y
  | l, 0, x, t, y, t', h, hx => by
    obtain ⟨h1, h2⟩ := ok_inj h
    subst h1 h2
    exact hx
  | l, f + 1, x, t, y, t', h, hx => by
    rw [Tks.lp_succ] at h
    split at h
    · obtain ⟨h1, h2⟩ := ok_inj h
      subst h1 h2
      exact hx
    · split at h
      · split at h
        · rename_i h22
          obtain ⟨h1, h2⟩ := ok_inj h
          subst h1 h2
          exact Ox.unw (by omega) h22 hx
        · exact (no_ok h).elim
      · obtain ⟨a, u, h1, h2⟩ := Pr.bind_eq_ok h
        have ha := hs _ _ _ h1
        have ho := opc_rng (S.K t)
        have hm : Ox S (mk2 (S.K t) x a) := Ox.bin (Or.inr ho) hx ha
        split at h2
        · obtain ⟨h3, h4⟩ := ok_inj h2
          subst h3 h4
          exact hm
        · exact Tks.lp_ox hs l f _ u y t' h2 hm
theorem Tks.lv_ox {S : Tks} {s : Nat → Pr Tr} (hs : S.GO s) : ∀ i, S.GO (S.lv s i)
  | 0 => hs
  | i + 1 => by
    intro t x t' h
    obtain ⟨a, u, h1, h2⟩ := Pr.bind_eq_ok (show (S.lv s i t).bind _ = _ from h)
    exact Tks.lp_ox (Tks.lv_ox hs i) (6 - i) (S.E - u) a u x t' h2 (Tks.lv_ox hs i _ _ _ h1)
theorem Tks.brk_ox {S : Tks} {sub : Nat → Pr Tr} (hs : S.GO sub) (r : Nat) (a b : Int32) : S.GO (S.brk r sub a b) := by
  intro t x t' h
  unfold Tks.brk at h
  split at h
  · exact (no_ok h).elim
  · obtain ⟨y, u, h1, h2⟩ := Pr.bind_eq_ok h
    split at h2
    · obtain ⟨h6, h7⟩ := ok_inj h2
      subst h6 h7
      exact hs _ _ _ h1
    · exact (no_ok h2).elim
theorem Tks.argl_ox {S : Tks} {sub : Nat → Pr Tr} (hs : S.GO sub) : ∀ (f : Nat) (s : Tr) (n t : Nat) (y : Tr × Nat) (t' : Nat), S.argl sub f s n t = ok y t' → OkSp (Ox S) n s → OkSp (Ox S) y.2 y.1
  | 0, s, n, t, y, t', h, _ => (no_ok h).elim
  | f + 1, s, n, t, y, t', h, hn => by
    unfold Tks.argl at h
    obtain ⟨a, u, h1, h2⟩ := Pr.bind_eq_ok h
    have ha := hs _ _ _ h1
    have hn1 : OkSp (Ox S) (n + 1) (eArg s a) := ⟨s, a, rfl, hn, ha⟩
    split at h2
    · exact Tks.argl_ox hs f _ _ _ _ _ h2 hn1
    · split at h2
      · obtain ⟨h6, h7⟩ := ok_inj h2
        subst h6 h7
        exact hn1
      · exact (no_ok h2).elim
theorem Tks.args_ox {S : Tks} {sub : Nat → Pr Tr} (hs : S.GO sub) {r : Nat} {s : Tr} {t : Nat} {y : Tr × Nat} {t' : Nat} (h : S.args r sub s t = ok y t') (h0 : s = eSelf ∨ Ox S s) : OkSp (Ox S) y.2 y.1 := by
  unfold Tks.args at h
  split at h
  · exact (no_ok h).elim
  · split at h
    · obtain ⟨h6, h7⟩ := ok_inj h
      subst h6 h7
      exact h0
    · exact Tks.argl_ox hs _ _ _ _ _ _ h h0
theorem Tks.first_ox {S : Tks} {sub : Nat → Pr Tr} (hs : S.GO sub) (r : Nat) : S.GO (S.first r sub) := by
  intro t x t' h
  unfold Tks.first at h
  split at h
  · obtain ⟨h6, h7⟩ := ok_inj h
    subst h6 h7
    exact Ox.leaf (Or.inl rfl)
  · split at h
    · rename_i h22
      split at h
      · obtain ⟨y, u, h1, h2⟩ := Pr.bind_eq_ok h
        obtain ⟨h6, h7⟩ := ok_inj h2
        subst h6 h7
        exact Ox.call h22 (Tks.args_ox hs h1 (Or.inl rfl))
      · obtain ⟨h6, h7⟩ := ok_inj h
        subst h6 h7
        exact Ox.name (Or.inl rfl) h22
    · split at h
      · exact Tks.brk_ox hs _ _ _ _ _ _ h
      · split at h
        · split at h
          · obtain ⟨y, u, h1, h2⟩ := Pr.bind_eq_ok h
            obtain ⟨h6, h7⟩ := ok_inj h2
            subst h6 h7
            exact Ox.un (Or.inl rfl) (Tks.brk_ox hs _ _ _ _ _ _ h1)
          · split at h
            · rename_i h22
              obtain ⟨h6, h7⟩ := ok_inj h
              subst h6 h7
              exact Ox.name (Or.inr rfl) h22
            · exact (no_ok h).elim
        · repeat' split at h
          all_goals first
            | (exact (no_ok h).elim)
            | (obtain ⟨h6, h7⟩ := ok_inj h; subst h6 h7; exact Ox.leaf (by omega))
theorem Tks.chn_ox {S : Tks} {sub : Nat → Pr Tr} (hs : S.GO sub) (r : Nat) : ∀ (f : Nat) (x : Tr) (t : Nat) (y : Tr) (t' : Nat), S.chn r sub f x t = ok y t' → Ox S x → Ox S y
  | 0, x, t, y, t', h, hx => by
    obtain ⟨h1, h2⟩ := ok_inj h
    subst h1 h2
    exact hx
  | f + 1, x, t, y, t', h, hx => by
    rw [Tks.chn_succ] at h
    split at h
    · obtain ⟨z, u, h1, h2⟩ := Pr.bind_eq_ok h
      refine Tks.chn_ox hs r f z u y t' h2 ?_
      unfold Tks.beh at h1
      split at h1
      · split at h1
        · exact (no_ok h1).elim
        · rename_i h22
          have h22 := Decidable.not_not.mp h22
          split at h1
          · obtain ⟨a, v, g1, g2⟩ := Pr.bind_eq_ok h1
            obtain ⟨g3, g4⟩ := ok_inj g2
            subst g3 g4
            exact Ox.call h22 (Tks.args_ox hs g1 (Or.inr hx))
          · obtain ⟨g3, g4⟩ := ok_inj h1
            subst g3 g4
            exact Ox.unw (Or.inl rfl) h22 hx
      · split at h1
        · obtain ⟨a, v, g1, g2⟩ := Pr.bind_eq_ok h1
          obtain ⟨g3, g4⟩ := ok_inj g2
          subst g3 g4
          exact Ox.bin (Or.inl rfl) hx (Tks.brk_ox hs _ _ _ _ _ _ g1)
        · split at h1
          · exact (no_ok h1).elim
          · rename_i h22
            have h22 := Decidable.not_not.mp h22
            obtain ⟨g3, g4⟩ := ok_inj h1
            subst g3 g4
            exact Ox.unw (Or.inr (Or.inl rfl)) h22 hx
    · obtain ⟨h1, h2⟩ := ok_inj h
      subst h1 h2
      exact hx
theorem Tks.chain_ox {S : Tks} {sub : Nat → Pr Tr} (hs : S.GO sub) (r : Nat) : S.GO (S.chain r sub) := by
  intro t x t' h
  obtain ⟨y, u, h1, h2⟩ := Pr.bind_eq_ok h
  exact Tks.chn_ox hs r _ y u x t' h2 (Tks.first_ox hs r _ _ _ h1)
theorem Tks.sgl_ox (S : Tks) : ∀ r, S.GO (S.sgl r)
  | 0 => by
    intro t x t' h
    unfold Tks.sgl at h
    split at h
    · exact (no_ok h).elim
    · exact Tks.chain_ox (fun t x t' h => (no_ok h).elim) 0 _ _ _ h
  | r + 1 => by
    intro t x t' h
    unfold Tks.sgl at h
    split at h
    · obtain ⟨y, u, h1, h2⟩ := Pr.bind_eq_ok h
      obtain ⟨h6, h7⟩ := ok_inj h2
      subst h6 h7
      exact Ox.un (by split <;> omega) (Tks.sgl_ox S r _ _ _ h1)
    · exact Tks.chain_ox (Tks.lv_ox (Tks.sgl_ox S r) 6) _ _ _ _ h
theorem Tks.expr_ox (S : Tks) (r : Nat) : S.GO (S.expr r) := Tks.lv_ox (Tks.sgl_ox S r) 6
