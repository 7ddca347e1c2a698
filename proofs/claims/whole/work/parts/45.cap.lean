/-! ===== HOW MUCH A TEXT CAN TELL ===== -/
/-- what an expression weighs: no more than its bytes -/
def wt : Ex → Nat
  | .self => 1
  | .leaf _ _ _ => 1
  | .un _ _ _ a => wt a + 1
  | .bin _ a b => wt a + wt b + 1
  | .join _ a b => wt a + wt b + 2
  | .arg a b => wt a + wt b + 1
  | .call _ _ s => wt s + 1
namespace Tks
def Cap (S : Tks) (p : Nat → Pr Ex) : Prop := ∀ t x t', p t = .ok x t' → wt x + S.P t ≤ S.P t'
theorem mono_k {S : Tks} {t : Nat} {k : Int32} (h : S.K t = k) (hk : k ≠ 0) : S.P t + 1 ≤ S.P (t + 1) := S.mono t (by rw [h]; exact hk)
theorem wt_mk2 {S : Tks} {t : Nat} (x y : Ex) (hl : lvl (S.K t) ≠ 0) : wt (mk2 (S.K t) x y) + S.P t ≤ wt x + wt y + S.P (t + 1) := by
  unfold mk2
  split
  · rename_i h2
    have hk : S.K t = 131 ∨ S.K t = 132 := by
      by_cases h1 : S.K t = 132
      · exact Or.inr h1
      · by_cases h3 : S.K t = 131
        · exact Or.inl h3
        · exfalso
          unfold lvl at h2 hl
          rw [if_neg h1, if_neg h3] at h2 hl
          repeat' split at h2
          all_goals first | omega | skip
          rename_i z1 z2 z3 z4
          rw [if_neg z1, if_neg z2, if_neg z3, if_neg z4] at hl
          exact hl rfl
    have := S.two t hk
    show wt x + wt y + 2 + S.P t ≤ _
    omega
  · have : S.P t + 1 ≤ S.P (t + 1) := S.mono t (fun z => hl (by rw [z]; rfl))
    show wt x + wt y + 1 + S.P t ≤ _
    omega
theorem lp_cap {S : Tks} {s : Nat → Pr Ex} (hs : S.Cap s) {l : Nat} (hl : l ≠ 0) : ∀ (f : Nat) (x : Ex) (t : Nat) (y : Ex) (t' : Nat), S.lp s l f x t = .ok y t' → wt y + S.P t ≤ wt x + S.P t'
  | 0, x, t, y, t', h => by
    unfold lp at h
    injection h with h1 h2
    subst h1 h2
    exact Nat.le_refl _
  | f + 1, x, t, y, t', h => by
    unfold lp at h
    split at h
    · injection h with h1 h2
      subst h1 h2
      exact Nat.le_refl _
    · rename_i hlv
      have hlv : lvl (S.K t) = l := Decidable.not_not.mp hlv
      split at h
      · rename_i hk
        split at h
        · rename_i h3
          injection h with h1 h2
          have := mono_k hk (by decide)
          have : S.P (t + 1) + 1 ≤ S.P (t + 2) := mono_k h3 (by decide)
          subst h1 h2
          show wt x + 1 + S.P t ≤ _
          omega
        · cases h
      · obtain ⟨a, u, h1, h2⟩ := Pr.bind_eq_ok h
        have h3 := hs _ _ _ h1
        have h4 := wt_mk2 (S := S) (t := t) x a (by omega)
        split at h2
        · injection h2 with h5 h6
          subst h5 h6
          omega
        · have := lp_cap hs hl f _ u y t' h2
          omega
theorem lv_cap {S : Tks} {s : Nat → Pr Ex} (hs : S.Cap s) : ∀ i, i ≤ 6 → S.Cap (S.lv s i)
  | 0, _ => hs
  | i + 1, hi => by
    intro t x t' h
    obtain ⟨a, u, h1, h2⟩ := Pr.bind_eq_ok (show (S.lv s i t).bind _ = _ from h)
    have h3 := lv_cap hs i (by omega) _ _ _ h1
    have := lp_cap (lv_cap hs i (by omega)) (by omega) _ _ _ _ _ h2
    omega
theorem argl_cap {S : Tks} {sub : Nat → Pr Ex} (hs : S.Cap sub) : ∀ (f : Nat) (s : Ex) (n t : Nat) (y : Ex × Nat) (t' : Nat), S.argl sub f s n t = .ok y t' → wt y.1 + S.P t ≤ wt s + S.P t'
  | 0, s, n, t, y, t', h => by cases h
  | f + 1, s, n, t, y, t', h => by
    unfold argl at h
    obtain ⟨a, u, h1, h2⟩ := Pr.bind_eq_ok h
    have h3 := hs _ _ _ h1
    split at h2
    · rename_i h5
      have h6 := argl_cap hs f _ _ _ _ _ h2
      have h7 : wt (.arg s a) = wt s + wt a + 1 := rfl
      have := mono_k h5 (by decide)
      omega
    · split at h2
      · rename_i h5
        injection h2 with h6 h7
        have := mono_k h5 (by decide)
        subst h6 h7
        show wt s + wt a + 1 + _ ≤ _
        omega
      · cases h2
theorem args_cap {S : Tks} {sub : Nat → Pr Ex} (hs : S.Cap sub) {r : Nat} {s : Ex} {t : Nat} {y : Ex × Nat} {t' : Nat} (h : S.args r sub s t = .ok y t') : wt y.1 + 1 + S.P t ≤ wt s + S.P t' := by
  unfold args at h
  split at h
  · cases h
  · rename_i h0
    have h1 : S.P t + 1 ≤ S.P (t + 1) := mono_k (Decidable.not_not.mp (fun z => h0 (Or.inl z))) (by decide)
    split at h
    · rename_i h5
      injection h with h6 h7
      have : S.P (t + 1) + 1 ≤ S.P (t + 2) := mono_k h5 (by decide)
      subst h6 h7
      show wt s + 1 + _ ≤ _
      omega
    · have := argl_cap hs _ _ _ _ _ _ h
      omega
theorem brk_cap {S : Tks} {sub : Nat → Pr Ex} (hs : S.Cap sub) {r : Nat} {a b : Int32} (ha : a ≠ 0) (hb : b ≠ 0) {t : Nat} {x : Ex} {t' : Nat} (h : S.brk r sub a b t = .ok x t') : wt x + 2 + S.P t ≤ S.P t' := by
  unfold brk at h
  split at h
  · cases h
  · rename_i h0
    have h1 : S.P t + 1 ≤ S.P (t + 1) := mono_k (Decidable.not_not.mp (fun z => h0 (Or.inl z))) ha
    obtain ⟨y, u, h3, h2⟩ := Pr.bind_eq_ok h
    have h4 := hs _ _ _ h3
    split at h2
    · rename_i h5
      injection h2 with h6 h7
      have := mono_k h5 hb
      subst h6 h7
      omega
    · cases h2
theorem first_cap {S : Tks} {sub : Nat → Pr Ex} (hs : S.Cap sub) (r : Nat) : S.Cap (S.first r sub) := by
  intro t x t' h
  have one : ∀ {k : Int32}, S.K t = k → k ≠ 0 → S.P t + 1 ≤ S.P (t + 1) := fun h1 h2 => mono_k h1 h2
  unfold first at h
  repeat' split at h
  all_goals first
    | (cases h; done)
    | (injection h with h6 h7; rename_i h5; have := mono_k h5 (by decide); subst h6 h7; show 1 + _ ≤ _; omega)
    | skip
  · rename_i h5 _
    obtain ⟨y, u, h1, h2⟩ := Pr.bind_eq_ok h
    have := args_cap hs h1
    injection h2 with h6 h7
    have := one h5 (by decide)
    subst h6 h7
    have e : wt (.call y.2 (S.W t) y.1) = wt y.1 + 1 := rfl
    have e2 : wt Ex.self = 1 := rfl
    omega
  · rename_i h5 h8
    injection h with h6 h7
    have := one h5 (by decide)
    subst h6 h7
    show 1 + _ ≤ _
    omega
  · have := brk_cap hs (by decide) (by decide) h
    omega
  · rename_i h5 h8
    obtain ⟨y, u, h1, h2⟩ := Pr.bind_eq_ok h
    have := brk_cap hs (by decide) (by decide) h1
    injection h2 with h6 h7
    have := one h5 (by decide)
    have := mono_k h8 (by decide)
    have h9 : S.P (t + 1) + 1 ≤ S.P (t + 1 + 1) := this
    subst h6 h7
    show wt y + 1 + _ ≤ _
    have : S.P (t + 2) = S.P (t + 1 + 1) := rfl
    omega
  · rename_i h5 h8 h9
    injection h with h6 h7
    have := one h5 (by decide)
    have : S.P (t + 1) + 1 ≤ S.P (t + 2) := mono_k h9 (by decide)
    subst h6 h7
    show 1 + _ ≤ _
    omega
theorem chn_cap {S : Tks} {sub : Nat → Pr Ex} (hs : S.Cap sub) (r : Nat) : ∀ (f : Nat) (x : Ex) (t : Nat) (y : Ex) (t' : Nat), S.chn r sub f x t = .ok y t' → wt y + S.P t ≤ wt x + S.P t'
  | 0, x, t, y, t', h => by
    unfold chn at h
    injection h with h1 h2
    subst h1 h2
    exact Nat.le_refl _
  | f + 1, x, t, y, t', h => by
    unfold chn at h
    split at h
    · rename_i h0
      have h0 := mono_k h0 (by decide)
      split at h
      · cases h
      · rename_i h1
        have h2 : S.P (t + 1) + 1 ≤ S.P (t + 2) := mono_k (Decidable.not_not.mp h1) (by decide)
        split at h
        · obtain ⟨a, u, h3, h4⟩ := Pr.bind_eq_ok h
          have h5 := args_cap hs h3
          have h6 := chn_cap hs r f _ u y t' h4
          have e : wt (.call a.2 (S.W (t + 1)) a.1) = wt a.1 + 1 := rfl
          omega
        · have h6 := chn_cap hs r f _ _ y t' h
          have e : wt (.un 9 0 (S.W (t + 1)) x) = wt x + 1 := rfl
          omega
    · split at h
      · obtain ⟨a, u, h3, h4⟩ := Pr.bind_eq_ok h
        have h5 := brk_cap hs (by decide) (by decide) h3
        have h6 := chn_cap hs r f _ u y t' h4
        have e : wt (.bin 12 x a) = wt x + wt a + 1 := rfl
        omega
      · split at h
        · rename_i h0
          have h0 := mono_k h0 (by decide)
          split at h
          · cases h
          · rename_i h1
            have h2 : S.P (t + 1) + 1 ≤ S.P (t + 2) := mono_k (Decidable.not_not.mp h1) (by decide)
            have h6 := chn_cap hs r f _ _ y t' h
            have e : wt (.un 15 0 (S.W (t + 1)) x) = wt x + 1 := rfl
            omega
        · injection h with h1 h2
          subst h1 h2
          exact Nat.le_refl _
theorem chain_cap {S : Tks} {sub : Nat → Pr Ex} (hs : S.Cap sub) (r : Nat) : S.Cap (S.chain r sub) := by
  intro t x t' h
  obtain ⟨y, u, h1, h2⟩ := Pr.bind_eq_ok h
  have h3 := first_cap hs _ _ _ _ h1
  have := chn_cap hs _ _ _ _ _ _ h2
  omega
theorem sgl_cap (S : Tks) : ∀ r, S.Cap (S.sgl r)
  | 0 => by
    intro t x t' h
    unfold sgl at h
    split at h
    · cases h
    · exact chain_cap (fun t x t' h => by cases h) 0 _ _ _ h
  | r + 1 => by
    intro t x t' h
    unfold sgl at h
    split at h
    · rename_i h0
      obtain ⟨y, u, h1, h2⟩ := Pr.bind_eq_ok h
      have h3 := sgl_cap S r _ _ _ h1
      injection h2 with h6 h7
      have : S.P t + 1 ≤ S.P (t + 1) := h0.elim (fun z => mono_k z (by decide)) (fun z => mono_k z (by decide))
      subst h6 h7
      show wt y + 1 + _ ≤ _
      omega
    · exact chain_cap (lv_cap (sgl_cap S r) 6 (by omega)) _ _ _ _ h
theorem expr_cap (S : Tks) (r : Nat) : S.Cap (S.expr r) := lv_cap (sgl_cap S r) 6 (by omega)
end Tks
