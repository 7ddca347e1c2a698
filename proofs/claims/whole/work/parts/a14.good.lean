/-! ===== PROGRAMS AS THE GRAMMAR MAKES THEM: all names are names ===== -/
/-- a type as it is told, not void -/
def tyW (S : Tks) (y : Nat) : Prop := y < 3 ∨ (4 ≤ y ∧ S.K (y - 4) = 22)
/-- rows of statements of depth n -/
def GB (S : Tks) : Nat → Tr → Prop
  | 0, e => e = nl
  | n + 1, e => e = nl ∨ (∃ p y w r, e = bTell p y w r ∧ tyW S y ∧ S.K w = 22 ∧ GB S n r) ∨ (∃ p y w x r, e = bTellv p y w x r ∧ tyW S y ∧ S.K w = 22 ∧ Ox S x ∧ GB S n r) ∨ (∃ p r, e = bRet p r ∧ GB S n r) ∨ (∃ p k x r, e = bWork p k x r ∧ (k = 41 ∨ k = 42 ∨ k = 43) ∧ Ox S x ∧ GB S n r) ∨ (∃ p x r, e = bDrop p x r ∧ isCallE x = true ∧ Ox S x ∧ GB S n r) ∨ (∃ p x y r, e = bGive p x y r ∧ isPlaceE x = true ∧ Ox S x ∧ Ox S y ∧ GB S n r) ∨ (∃ p x a h b r, e = bIte p x a h b r ∧ (h = 1 ∨ (h = 0 ∧ b = nl)) ∧ Ox S x ∧ GB S n a ∧ GB S n b ∧ GB S n r) ∨ (∃ p x a r, e = bWhil p x a r ∧ Ox S x ∧ GB S n a ∧ GB S n r) ∨ (∃ p a c w b r, e = bTry p a c w b r ∧ S.K c = 22 ∧ S.K w = 22 ∧ GB S n a ∧ GB S n b ∧ GB S n r)
theorem GB.succ {S : Tks} : ∀ {n : Nat} {e : Tr}, GB S n e → GB S (n + 1) e
  | 0, e, h => Or.inl h
  | n + 1, e, h => by
    rcases h with h | ⟨p, y, w, r, h1, g1, g2, h2⟩ | ⟨p, y, w, x, r, h1, g1, g2, g3, h2⟩ | ⟨p, r, h1, h2⟩ | ⟨p, k, x, r, h1, h2, g1, h3⟩ | ⟨p, x, r, h1, h2, g1, h3⟩ | ⟨p, x, y, r, h1, h2, g1, g2, h3⟩ | ⟨p, x, a, h, b, r, h1, h2, g1, h3, h4, h5⟩ | ⟨p, x, a, r, h1, g1, h2, h3⟩ | ⟨p, a, c, w, b, r, h1, g1, g2, h2, h3, h4⟩
    · exact Or.inl h
    · exact Or.inr (Or.inl ⟨p, y, w, r, h1, g1, g2, h2.succ⟩)
    · exact Or.inr (Or.inr (Or.inl ⟨p, y, w, x, r, h1, g1, g2, g3, h2.succ⟩))
    · exact Or.inr (Or.inr (Or.inr (Or.inl ⟨p, r, h1, h2.succ⟩)))
    · exact Or.inr (Or.inr (Or.inr (Or.inr (Or.inl ⟨p, k, x, r, h1, h2, g1, h3.succ⟩))))
    · exact Or.inr (Or.inr (Or.inr (Or.inr (Or.inr (Or.inl ⟨p, x, r, h1, h2, g1, h3.succ⟩)))))
    · exact Or.inr (Or.inr (Or.inr (Or.inr (Or.inr (Or.inr (Or.inl ⟨p, x, y, r, h1, h2, g1, g2, h3.succ⟩))))))
    · exact Or.inr (Or.inr (Or.inr (Or.inr (Or.inr (Or.inr (Or.inr (Or.inl ⟨p, x, a, h, b, r, h1, h2, g1, h3.succ, h4.succ, h5.succ⟩)))))))
    · exact Or.inr (Or.inr (Or.inr (Or.inr (Or.inr (Or.inr (Or.inr (Or.inr (Or.inl ⟨p, x, a, r, h1, g1, h2.succ, h3.succ⟩))))))))
    · exact Or.inr (Or.inr (Or.inr (Or.inr (Or.inr (Or.inr (Or.inr (Or.inr (Or.inr ⟨p, a, c, w, b, r, h1, g1, g2, h2.succ, h3.succ, h4.succ⟩))))))))
theorem GB.le {S : Tks} {n m : Nat} {e : Tr} (h : GB S n e) (hm : n ≤ m) : GB S m e := by
  obtain ⟨d, rfl⟩ : ∃ d, m = n + d := ⟨m - n, by omega⟩
  clear hm
  induction d with
  | zero => exact h
  | succ d ih => exact GB.succ ih
theorem GB.nl {S : Tks} (n : Nat) : GB S n nl := by
  cases n with
  | zero => rfl
  | succ n => exact Or.inl rfl
def Gb (S : Tks) (e : Tr) : Prop := ∃ n, GB S n e
theorem tyW_of {S : Tks} {t y : Nat} (h : S.ty t = some y) : tyW S y := by
  unfold Tks.ty at h
  unfold tyW
  split at h
  · obtain rfl := Option.some.inj h; exact Or.inl (by omega)
  · split at h
    · obtain rfl := Option.some.inj h; exact Or.inl (by omega)
    · split at h
      · obtain rfl := Option.some.inj h; exact Or.inl (by omega)
      · split at h
        · rename_i h22
          obtain rfl := Option.some.inj h
          exact Or.inr ⟨by omega, by rw [show 4 + t - 4 = t by omega]; exact h22⟩
        · cases h
theorem Tks.semi_inv {α : Type} {S : Tks} {a x : α} {t t' : Nat} (h : S.semi a t = ok x t') : x = a := by
  unfold Tks.semi at h
  split at h
  · exact (ok_inj h).1.symm
  · exact (no_ok h).elim
/-- a statement, and then good ones -/
def GS (S : Tks) (a : Tr) : Prop := ∀ r, Gb S r → Gb S (bSeq a r)
theorem Tks.stm_gb {S : Tks} {r : Nat} {bk : Nat → Pr (Tr × Nat)} (hb : ∀ t x t', bk t = ok x t' → Gb S x.1) {t : Nat} {a : Tr} {t' : Nat} (h : S.stm r bk t = ok a t') : GS S a := by
  have wk : ∀ k, (k = 41 ∨ k = 42 ∨ k = 43) → S.workS r k t = ok a t' → GS S a := by
    intro k hk h z hz
    obtain ⟨y, u, h1, h2⟩ := Pr.bind_eq_ok h
    obtain rfl := Tks.semi_inv h2
    obtain ⟨n, hz⟩ := hz
    exact ⟨n + 1, Or.inr (Or.inr (Or.inr (Or.inr (Or.inl ⟨_, k, y, z, rfl, hk, Tks.expr_ox S r _ _ _ h1, hz⟩))))⟩
  unfold Tks.stm at h
  split at h
  · unfold Tks.tellS at h
    split at h
    · exact (no_ok h).elim
    · rename_i y hy
      have hty := tyW_of hy
      split at h
      · exact (no_ok h).elim
      · rename_i h22
        have h22 := Decidable.not_not.mp h22
        split at h
        · obtain ⟨e, u, h1, h2⟩ := Pr.bind_eq_ok h
          obtain rfl := Tks.semi_inv h2
          intro z ⟨n, hz⟩
          exact ⟨n + 1, Or.inr (Or.inr (Or.inl ⟨_, y, t + 1, e, z, rfl, hty, h22, Tks.expr_ox S r _ _ _ h1, hz⟩))⟩
        · obtain rfl := Tks.semi_inv h
          intro z ⟨n, hz⟩
          exact ⟨n + 1, Or.inr (Or.inl ⟨_, y, t + 1, z, rfl, hty, h22, hz⟩)⟩
  · split at h
    · obtain ⟨c, t1, h1, h2⟩ := Pr.bind_eq_ok h
      obtain ⟨x, t2, h3, h4⟩ := Pr.bind_eq_ok h2
      have hc := Tks.brk_ox (Tks.expr_ox S (r - 1)) _ _ _ _ _ _ h1
      obtain ⟨n1, hx⟩ := hb _ _ _ h3
      split at h4
      · obtain ⟨y, t3, h5, h6⟩ := Pr.bind_eq_ok h4
        obtain ⟨n2, hy⟩ := hb _ _ _ h5
        obtain ⟨rfl, rfl⟩ := ok_inj h6
        intro z ⟨n, hz⟩
        exact ⟨n + n1 + n2 + 1, Or.inr (Or.inr (Or.inr (Or.inr (Or.inr (Or.inr (Or.inr (Or.inl ⟨_, c, x.1, 1, y.1, z, rfl, Or.inl rfl, hc, hx.le (by omega), hy.le (by omega), hz.le (by omega)⟩)))))))⟩
      · obtain ⟨rfl, rfl⟩ := ok_inj h4
        intro z ⟨n, hz⟩
        exact ⟨n + n1 + 1, Or.inr (Or.inr (Or.inr (Or.inr (Or.inr (Or.inr (Or.inr (Or.inl ⟨_, c, x.1, 0, _, z, rfl, Or.inr ⟨rfl, rfl⟩, hc, hx.le (by omega), GB.nl _, hz.le (by omega)⟩)))))))⟩
    · split at h
      · obtain ⟨c, t1, h1, h2⟩ := Pr.bind_eq_ok h
        obtain ⟨x, t2, h3, h4⟩ := Pr.bind_eq_ok h2
        have hc := Tks.brk_ox (Tks.expr_ox S (r - 1)) _ _ _ _ _ _ h1
        obtain ⟨n1, hx⟩ := hb _ _ _ h3
        obtain ⟨rfl, rfl⟩ := ok_inj h4
        intro z ⟨n, hz⟩
        exact ⟨n + n1 + 1, Or.inr (Or.inr (Or.inr (Or.inr (Or.inr (Or.inr (Or.inr (Or.inr (Or.inl ⟨_, c, x.1, z, rfl, hc, hx.le (by omega), hz.le (by omega)⟩))))))))⟩
      · split at h
        · obtain ⟨x, t1, h1, h2⟩ := Pr.bind_eq_ok h
          obtain ⟨n1, hx⟩ := hb _ _ _ h1
          split at h2
          · exact (no_ok h2).elim
          · split at h2
            · exact (no_ok h2).elim
            · split at h2
              · exact (no_ok h2).elim
              · rename_i k1
                have k1 := Decidable.not_not.mp k1
                split at h2
                · exact (no_ok h2).elim
                · rename_i k2
                  have k2 := Decidable.not_not.mp k2
                  split at h2
                  · exact (no_ok h2).elim
                  · obtain ⟨y, t3, h5, h6⟩ := Pr.bind_eq_ok h2
                    obtain ⟨n2, hy⟩ := hb _ _ _ h5
                    obtain ⟨rfl, rfl⟩ := ok_inj h6
                    intro z ⟨n, hz⟩
                    exact ⟨n + n1 + n2 + 1, Or.inr (Or.inr (Or.inr (Or.inr (Or.inr (Or.inr (Or.inr (Or.inr (Or.inr ⟨_, x.1, t1 + 2, t1 + 3, y.1, z, rfl, k1, k2, hx.le (by omega), hy.le (by omega), hz.le (by omega)⟩))))))))⟩
        · split at h
          · split at h
            · obtain ⟨rfl, rfl⟩ := ok_inj h
              intro z ⟨n, hz⟩
              exact ⟨n + 1, Or.inr (Or.inr (Or.inr (Or.inl ⟨_, z, rfl, hz⟩)))⟩
            · exact wk 41 (by omega) h
          · split at h
            · exact wk 42 (by omega) h
            · split at h
              · exact wk 43 (by omega) h
              · obtain ⟨x, t1, h1, h2⟩ := Pr.bind_eq_ok h
                have hx := Tks.expr_ox S r _ _ _ h1
                split at h2
                · rename_i hp
                  obtain ⟨y, t2, h3, h4⟩ := Pr.bind_eq_ok h2
                  obtain rfl := Tks.semi_inv h4
                  intro z ⟨n, hz⟩
                  exact ⟨n + 1, Or.inr (Or.inr (Or.inr (Or.inr (Or.inr (Or.inr (Or.inl ⟨_, x, y, z, rfl, hp.2, hx, Tks.expr_ox S r _ _ _ h3, hz⟩))))))⟩
                · split at h2
                  · rename_i hp
                    obtain ⟨rfl, rfl⟩ := ok_inj h2
                    intro z ⟨n, hz⟩
                    exact ⟨n + 1, Or.inr (Or.inr (Or.inr (Or.inr (Or.inr (Or.inl ⟨_, x, z, rfl, hp.2, hx, hz⟩)))))⟩
                  · exact (no_ok h2).elim
theorem Tks.stms_gb {S : Tks} {r : Nat} {bk : Nat → Pr (Tr × Nat)} (hb : ∀ t x t', bk t = ok x t' → Gb S x.1) : ∀ (f t : Nat) (x : Tr) (t' : Nat), S.stms r bk f t = ok x t' → Gb S x
  | 0, t, x, t', h => (no_ok h).elim
  | f + 1, t, x, t', h => by
    unfold Tks.stms at h
    split at h
    · obtain ⟨rfl, rfl⟩ := ok_inj h
      exact ⟨0, rfl⟩
    · obtain ⟨a, t1, h1, h2⟩ := Pr.bind_eq_ok h
      obtain ⟨b, t2, h3, h4⟩ := Pr.bind_eq_ok h2
      obtain ⟨rfl, rfl⟩ := ok_inj h4
      exact Tks.stm_gb hb h1 b (Tks.stms_gb hb f _ _ _ h3)
theorem Tks.blk_gb (S : Tks) : ∀ (r t : Nat) (x : Tr × Nat) (t' : Nat), S.blk r t = ok x t' → Gb S x.1
  | 0, t, x, t', h => (no_ok h).elim
  | r + 1, t, x, t', h => by
    unfold Tks.blk at h
    split at h
    · exact (no_ok h).elim
    · obtain ⟨b, t1, h1, h2⟩ := Pr.bind_eq_ok h
      obtain ⟨rfl, rfl⟩ := ok_inj h2
      exact Tks.stms_gb (Tks.blk_gb S r) _ _ _ _ h1
/-- a member -/
def GM (S : Tks) (b : Mb) : Prop := (tyW S b.2.1 ∨ (b.2.1 = 3 ∧ b.1 = true)) ∧ S.K b.2.2.1 = 22 ∧ (∀ x, x ∈ b.2.2.2.2.1 → tyW S x.1 ∧ S.K x.2 = 22) ∧ Gb S b.2.2.2.2.2.1 ∧ (b.1 = false → b.2.2.2.2.1 = [])
def GC (S : Tks) (x : Cl) : Prop := S.K x.1 = 22 ∧ (∀ w, x.2.2.1 = some w → S.K w = 22) ∧ ∀ b, b ∈ x.2.2.2 → GM S b
theorem Tks.parl_gb {S : Tks} : ∀ (f : Nat) (l : List (Nat × Nat)) (t : Nat) (y : List (Nat × Nat)) (t' : Nat), S.parl f l t = ok y t' → (∀ x, x ∈ l → tyW S x.1 ∧ S.K x.2 = 22) → ∀ x, x ∈ y → tyW S x.1 ∧ S.K x.2 = 22
  | 0, l, t, y, t', h, hl => (no_ok h).elim
  | f + 1, l, t, y, t', h, hl => by
    unfold Tks.parl at h
    split at h
    · exact (no_ok h).elim
    · rename_i z hz
      split at h
      · exact (no_ok h).elim
      · rename_i h22
        have h22 := Decidable.not_not.mp h22
        have hl2 : ∀ x, x ∈ l ++ [(z, t + 1)] → tyW S x.1 ∧ S.K x.2 = 22 := by
          intro x hx
          rcases List.mem_append.mp hx with hx | hx
          · exact hl x hx
          · rw [List.mem_singleton.mp hx]
            exact ⟨tyW_of hz, h22⟩
        split at h
        · exact Tks.parl_gb f _ _ _ _ h hl2
        · split at h
          · obtain ⟨rfl, rfl⟩ := ok_inj h
            exact hl2
          · exact (no_ok h).elim
theorem Tks.mem_gb {S : Tks} {r t : Nat} {b : Mb} {t' : Nat} (h : S.mem r t = ok b t') : GM S b := by
  unfold Tks.mem at h
  split at h
  · exact (no_ok h).elim
  · rename_i y hy
    have hy2 : tyW S y ∨ (y = 3 ∧ S.K t = 5) := by
      unfold Tks.rty at hy
      split at hy
      · rename_i h5
        obtain rfl := Option.some.inj hy
        exact Or.inr ⟨rfl, h5⟩
      · exact Or.inl (tyW_of hy)
    split at h
    · exact (no_ok h).elim
    · rename_i h22
      have h22 := Decidable.not_not.mp h22
      split at h
      · rename_i h5
        obtain ⟨rfl, rfl⟩ := ok_inj h
        exact ⟨Or.inl (hy2.resolve_right (fun z => h5.1 z.2)), h22, fun x hx => (by cases hx), ⟨0, rfl⟩, fun _ => rfl⟩
      · obtain ⟨ps, t1, h1, h2⟩ := Pr.bind_eq_ok h
        obtain ⟨c, t2, h3, h4⟩ := Pr.bind_eq_ok h2
        obtain ⟨rfl, rfl⟩ := ok_inj h4
        refine ⟨hy2.imp_right (fun z => ⟨z.1, rfl⟩), h22, ?_, Tks.blk_gb S r _ _ _ h3, fun z => (by cases z)⟩
        unfold Tks.pars at h1
        split at h1
        · exact (no_ok h1).elim
        · split at h1
          · obtain ⟨rfl, rfl⟩ := ok_inj h1
            intro x hx
            cases hx
          · exact Tks.parl_gb _ _ _ _ _ h1 (fun x hx => (by cases hx))
theorem Tks.mems_gb {S : Tks} {r : Nat} : ∀ (f t : Nat) (x : List Mb) (t' : Nat), S.mems r f t = ok x t' → ∀ b, b ∈ x → GM S b
  | 0, t, x, t', h => (no_ok h).elim
  | f + 1, t, x, t', h => by
    unfold Tks.mems at h
    split at h
    · obtain ⟨rfl, rfl⟩ := ok_inj h
      intro b hb
      cases hb
    · obtain ⟨a, t1, h1, h2⟩ := Pr.bind_eq_ok h
      obtain ⟨l, t2, h3, h4⟩ := Pr.bind_eq_ok h2
      obtain ⟨rfl, rfl⟩ := ok_inj h4
      intro b hb
      rcases List.mem_cons.mp hb with z | z
      · rw [z]; exact Tks.mem_gb h1
      · exact Tks.mems_gb f _ _ _ h3 b z
theorem Tks.clsB_gb {S : Tks} {w p t : Nat} {o : Option Nat} {x : Cl} {t' : Nat} (h : S.clsB w p o t = ok x t') (hw : S.K w = 22) (ho : ∀ v, o = some v → S.K v = 22) : GC S x := by
  unfold Tks.clsB at h
  split at h
  · exact (no_ok h).elim
  · obtain ⟨m, t1, h1, h2⟩ := Pr.bind_eq_ok h
    obtain ⟨rfl, rfl⟩ := ok_inj h2
    exact ⟨hw, ho, Tks.mems_gb _ _ _ _ h1⟩
theorem Tks.cls_gb {S : Tks} {t : Nat} {x : Cl} {t' : Nat} (h : S.cls t = ok x t') : GC S x := by
  unfold Tks.cls at h
  split at h
  · exact (no_ok h).elim
  · rename_i h22
    have h22 := Decidable.not_not.mp h22
    split at h
    · split at h
      · exact (no_ok h).elim
      · rename_i h23
        have h23 := Decidable.not_not.mp h23
        exact Tks.clsB_gb h h22 (fun v hv => by obtain rfl := Option.some.inj hv; exact h23)
    · exact Tks.clsB_gb h h22 (fun v hv => by cases hv)
theorem Tks.clss_gb {S : Tks} : ∀ (f t : Nat) (cs : List Cl) (t' : Nat), S.clss f t = ok cs t' → (∀ x, x ∈ cs → GC S x) ∧ S.K t' = 0
  | 0, t, cs, t', h => (no_ok h).elim
  | f + 1, t, cs, t', h => by
    unfold Tks.clss at h
    split at h
    · exact (no_ok h).elim
    · obtain ⟨c, t1, h1, h2⟩ := Pr.bind_eq_ok h
      have hc := Tks.cls_gb h1
      split at h2
      · rename_i h0
        obtain ⟨rfl, rfl⟩ := ok_inj h2
        refine ⟨fun x hx => ?_, h0⟩
        rw [List.mem_singleton.mp hx]
        exact hc
      · obtain ⟨l, t2, h3, h4⟩ := Pr.bind_eq_ok h2
        obtain ⟨rfl, rfl⟩ := ok_inj h4
        obtain ⟨g1, g2⟩ := Tks.clss_gb f _ _ _ h3
        refine ⟨fun x hx => ?_, g2⟩
        rcases List.mem_cons.mp hx with z | z
        · rw [z]; exact hc
        · exact g1 x z
theorem Tks.prog_gb {S : Tks} {cs : List Cl} {t' : Nat} (h : S.prog = ok cs t') : (∀ x, x ∈ cs → GC S x) ∧ S.K t' = 0 := Tks.clss_gb _ _ _ _ h
