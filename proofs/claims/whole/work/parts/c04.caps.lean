/-! ===== WHAT THE TEXT'S LENGTH GIVES: variables, expressions ===== -/
/-- between two words there is room -/
def Wsp (S : Tks) : Prop := ∀ t, (S.K t = 2 ∨ S.K t = 3 ∨ S.K t = 4 ∨ S.K t = 22) → S.K (t + 1) = 22 → S.P t + 2 ≤ S.P (t + 1)
theorem tk_wsp (T : Txt) : Wsp (tkS T) := fun t h1 h2 => by
  have h1 : tkK T t = 2 ∨ tkK T t = 3 ∨ tkK T t = 4 ∨ tkK T t = 22 := h1
  have h2 : tkK T (t + 1) = 22 := h2
  show tkP T t + 2 ≤ tkP T (t + 1)
  obtain ⟨l1, l2⟩ := Tk_letter (tk_is T (t + 1)) h2
  have hp := tk_pos T (t := t) (fun z => by rw [z] at h1; rcases h1 with y | y | y | y <;> exact absurd y (by decide))
  have he := tkE_le_P T t
  rcases Nat.lt_or_ge (tkP T t + 1) (tkP T (t + 1)) with z | z
  · omega
  · exfalso
    have e1 : tkP T (t + 1) = tkE T t := by omega
    have e2 := tkE_eq T t
    rcases tk_is T t with ⟨a0, a1, a2, a3⟩ | ⟨a0, a1, a2, a3, a4⟩ | ⟨a0, a1, a2, a3, a4⟩ | ⟨a0, a1, a2, a3, a4⟩
    · rw [a2] at h1
      rcases h1 with y | y | y | y <;> exact absurd y (by decide)
    · rcases a2.2.2 with y | y
      · omega
      · exact y (by rw [← e2, ← e1]; exact Or.inl l2)
    · rcases a4 with ⟨_, b, _⟩ | ⟨_, b, _⟩ <;> rw [b] at h1 <;> (rcases h1 with y | y | y | y <;> exact absurd y (by decide))
    · rcases a4 with ⟨b1, b2, b3⟩ | ⟨b1, b2, b3, b4⟩ | ⟨b1, b2, b3, b4⟩
      · omega
      · rw [b3] at h1
        unfold isSgn at b2
        rcases h1 with y | y | y | y <;> rw [y] at b2 <;> exact absurd b2 (by decide)
      · rw [b3] at h1
        rcases h1 with y | y | y | y <;> exact absurd y (by decide)
theorem Tks.ty_P4 {S : Tks} (hw : Wsp S) {t y : Nat} (h : S.ty t = some y) (h22 : S.K (t + 1) = 22) : S.P t + 2 ≤ S.P (t + 1) := by
  unfold Tks.ty at h
  split at h
  · exact hw t (Or.inl (by assumption)) h22
  · split at h
    · exact hw t (Or.inr (Or.inl (by assumption))) h22
    · split at h
      · exact hw t (Or.inr (Or.inr (Or.inl (by assumption)))) h22
      · split at h
        · exact hw t (Or.inr (Or.inr (Or.inr (by assumption)))) h22
        · cases h
theorem exW_k4 {k : Nat} (hk : k = 40 ∨ k = 41 ∨ k = 42 ∨ k = 43 ∨ k = 52) (p : Nat) (e r : Tr) : exW (nd k p 0 e r) = (wt e ≤ 3000 ∧ exW r) := by
  rcases hk with rfl | rfl | rfl | rfl | rfl <;> rfl
def Nv4 (S : Tks) (a : Tr) (t t' : Nat) : Prop := ∃ m, (∀ b, nv (bSeq a b) = m + nv b ∧ (exW b → exW (bSeq a b))) ∧ 4 * m + S.P t ≤ S.P t'
theorem Tks.stm_4 {S : Tks} {r : Nat} {bk : Nat → Pr (Tr × Nat)} (hw : Wsp S) (hP : ∀ u, S.P u ≤ 3000) (hb : ∀ t x t', bk t = ok x t' → 4 * nv x.1 + S.P t ≤ S.P t' ∧ exW x.1) {t : Nat} {a : Tr} {t' : Nat} (h : S.stm r bk t = ok a t') : Nv4 S a t t' := by
  have wk : ∀ k, (k = 41 ∨ k = 42 ∨ k = 43) → S.K t ≠ 0 → S.workS r k t = ok a t' → Nv4 S a t t' := by
    intro k hk h0 h
    obtain ⟨y, u, h1, h2⟩ := Pr.bind_eq_ok h
    have p1 := Tks.expr_cap S r _ _ _ h1
    have p2 := Tks.semi_P h2
    have p3 := S.mono t h0
    have p5 := hP u
    obtain rfl := Tks.semi_inv h2
    refine ⟨0, fun b => ?_, by omega⟩
    have := nv_k (k := k) (by omega) (S.P t) y b
    exact ⟨by show nv (nd k (S.P t) 0 y b) = _; rw [this.1]; omega, fun z => by show exW (nd k (S.P t) 0 y b); rw [exW_k4 (by omega)]; exact ⟨by omega, z⟩⟩
  unfold Tks.stm at h
  split at h
  · unfold Tks.tellS at h
    split at h
    · exact (no_ok h).elim
    · rename_i y hy
      split at h
      · exact (no_ok h).elim
      · rename_i h22
        have h22 := Decidable.not_not.mp h22
        have p0 := Tks.ty_P4 hw hy h22
        have p1 : S.P (t + 1) + 1 ≤ S.P (t + 2) := Tks.mono_k h22 (by decide)
        split at h
        · rename_i h61
          have p2 : S.P (t + 2) + 1 ≤ S.P (t + 3) := Tks.mono_k h61 (by decide)
          obtain ⟨e, u, h1, h2⟩ := Pr.bind_eq_ok h
          have p3 := Tks.expr_cap S r _ _ _ h1
          have p4 := Tks.semi_P h2
          have p5 := hP u
          obtain rfl := Tks.semi_inv h2
          exact ⟨1, fun b => ⟨rfl, fun z => ⟨by omega, z⟩⟩, by omega⟩
        · have p4 := Tks.semi_P h
          obtain rfl := Tks.semi_inv h
          exact ⟨1, fun b => ⟨rfl, fun z => z⟩, by omega⟩
  · split at h
    · rename_i hk6
      have p0 := Tks.mono_k hk6 (by decide)
      obtain ⟨c, t1, h1, h2⟩ := Pr.bind_eq_ok h
      obtain ⟨x, t2, h3, h4⟩ := Pr.bind_eq_ok h2
      have p1 := Tks.brk_cap (Tks.expr_cap S (r - 1)) (by decide) (by decide) h1
      have p5 := hP t1
      obtain ⟨p2, d2⟩ := hb _ _ _ h3
      split at h4
      · rename_i hk7
        have p3 := Tks.mono_k hk7 (by decide)
        obtain ⟨y, t3, h5, h6⟩ := Pr.bind_eq_ok h4
        obtain ⟨p4, d4⟩ := hb _ _ _ h5
        obtain ⟨rfl, rfl⟩ := ok_inj h6
        exact ⟨nv x.1 + nv y.1, fun b => ⟨rfl, fun z => ⟨by omega, d2, d4, z⟩⟩, by omega⟩
      · obtain ⟨rfl, rfl⟩ := ok_inj h4
        exact ⟨nv x.1, fun b => ⟨rfl, fun z => ⟨by omega, d2, trivial, z⟩⟩, by omega⟩
    · split at h
      · rename_i hk8
        have p0 := Tks.mono_k hk8 (by decide)
        obtain ⟨c, t1, h1, h2⟩ := Pr.bind_eq_ok h
        obtain ⟨x, t2, h3, h4⟩ := Pr.bind_eq_ok h2
        have p1 := Tks.brk_cap (Tks.expr_cap S (r - 1)) (by decide) (by decide) h1
        have p5 := hP t1
        obtain ⟨p2, d2⟩ := hb _ _ _ h3
        obtain ⟨rfl, rfl⟩ := ok_inj h4
        exact ⟨nv x.1, fun b => ⟨rfl, fun z => ⟨by omega, d2, z⟩⟩, by omega⟩
      · split at h
        · rename_i hk11
          have p0 := Tks.mono_k hk11 (by decide)
          obtain ⟨x, t1, h1, h2⟩ := Pr.bind_eq_ok h
          obtain ⟨p1, d1⟩ := hb _ _ _ h1
          split at h2
          · exact (no_ok h2).elim
          · rename_i k0
            have p2 := Tks.mono_k (Decidable.not_not.mp k0) (by decide)
            split at h2
            · exact (no_ok h2).elim
            · rename_i k0'
              have p3 : S.P (t1 + 1) + 1 ≤ S.P (t1 + 2) := Tks.mono_k (Decidable.not_not.mp (fun z => k0' (Or.inl z))) (by decide)
              split at h2
              · exact (no_ok h2).elim
              · rename_i k1
                have p4 : S.P (t1 + 2) + 1 ≤ S.P (t1 + 3) := Tks.mono_k (Decidable.not_not.mp k1) (by decide)
                split at h2
                · exact (no_ok h2).elim
                · rename_i k2
                  have p5 : S.P (t1 + 3) + 1 ≤ S.P (t1 + 4) := Tks.mono_k (Decidable.not_not.mp k2) (by decide)
                  split at h2
                  · exact (no_ok h2).elim
                  · rename_i k3
                    have p6 : S.P (t1 + 4) + 1 ≤ S.P (t1 + 5) := Tks.mono_k (Decidable.not_not.mp k3) (by decide)
                    obtain ⟨y, t3, h5, h6⟩ := Pr.bind_eq_ok h2
                    obtain ⟨p7, d7⟩ := hb _ _ _ h5
                    obtain ⟨rfl, rfl⟩ := ok_inj h6
                    exact ⟨1 + nv x.1 + nv y.1, fun b => ⟨rfl, fun z => ⟨d1, d7, z⟩⟩, by omega⟩
        · split at h
          · rename_i hk9
            split at h
            · rename_i hk59
              have p0 := Tks.mono_k hk9 (by decide)
              have p1 : S.P (t + 1) + 1 ≤ S.P (t + 2) := Tks.mono_k hk59 (by decide)
              obtain ⟨rfl, rfl⟩ := ok_inj h
              exact ⟨0, fun b => ⟨(Nat.zero_add _).symm, fun z => ⟨Nat.zero_le _, z⟩⟩, by omega⟩
            · exact wk 41 (by omega) (by rw [hk9]; decide) h
          · split at h
            · rename_i hk10
              exact wk 42 (by omega) (by rw [hk10]; decide) h
            · split at h
              · rename_i hk13
                exact wk 43 (by omega) (by rw [hk13]; decide) h
              · obtain ⟨x, t1, h1, h2⟩ := Pr.bind_eq_ok h
                have p1 := Tks.expr_cap S r _ _ _ h1
                have p6 := hP t1
                split at h2
                · rename_i hp
                  have p2 := Tks.mono_k hp.1 (by decide)
                  obtain ⟨y, t2, h3, h4⟩ := Pr.bind_eq_ok h2
                  have p3 := Tks.expr_cap S r _ _ _ h3
                  have p4 := Tks.semi_P h4
                  have p5 := hP t2
                  obtain rfl := Tks.semi_inv h4
                  exact ⟨0, fun b => ⟨(Nat.zero_add _).symm, fun z => ⟨by omega, z⟩⟩, by omega⟩
                · split at h2
                  · rename_i hp
                    have p2 := Tks.mono_k hp.1 (by decide)
                    obtain ⟨rfl, rfl⟩ := ok_inj h2
                    exact ⟨0, fun b => ⟨(Nat.zero_add _).symm, fun z => ⟨by omega, z⟩⟩, by omega⟩
                  · exact (no_ok h2).elim
theorem Tks.stms_4 {S : Tks} {r : Nat} {bk : Nat → Pr (Tr × Nat)} (hw : Wsp S) (hP : ∀ u, S.P u ≤ 3000) (hb : ∀ t x t', bk t = ok x t' → 4 * nv x.1 + S.P t ≤ S.P t' ∧ exW x.1) : ∀ (f t : Nat) (x : Tr) (t' : Nat), S.stms r bk f t = ok x t' → 4 * nv x + S.P t ≤ S.P t' ∧ exW x
  | 0, t, x, t', h => (no_ok h).elim
  | f + 1, t, x, t', h => by
    unfold Tks.stms at h
    split at h
    · obtain ⟨rfl, rfl⟩ := ok_inj h
      exact ⟨by show 4 * 0 + _ ≤ _; omega, trivial⟩
    · obtain ⟨a, t1, h1, h2⟩ := Pr.bind_eq_ok h
      obtain ⟨b, t2, h3, h4⟩ := Pr.bind_eq_ok h2
      obtain ⟨rfl, rfl⟩ := ok_inj h4
      obtain ⟨m, q1, q2⟩ := Tks.stm_4 hw hP hb h1
      obtain ⟨i1, i2⟩ := Tks.stms_4 hw hP hb f _ _ _ h3
      have := (q1 b).1
      exact ⟨by omega, (q1 b).2 i2⟩
theorem Tks.blk_4 (S : Tks) (hw : Wsp S) (hP : ∀ u, S.P u ≤ 3000) : ∀ (r t : Nat) (x : Tr × Nat) (t' : Nat), S.blk r t = ok x t' → 4 * nv x.1 + S.P t ≤ S.P t' ∧ exW x.1
  | 0, t, x, t', h => (no_ok h).elim
  | r + 1, t, x, t', h => by
    unfold Tks.blk at h
    split at h
    · exact (no_ok h).elim
    · rename_i h0
      have p0 := Tks.mono_k (Decidable.not_not.mp h0) (by decide)
      obtain ⟨b, t1, h1, h2⟩ := Pr.bind_eq_ok h
      obtain ⟨rfl, rfl⟩ := ok_inj h2
      obtain ⟨i1, i2⟩ := Tks.stms_4 hw hP (Tks.blk_4 S hw hP r) _ _ _ _ h1
      have p1 := (Tks.stms_adv (Tks.blk_adv S r) _ _ _ _ h1).2.2
      have p2 := Tks.mono_k p1 (by decide)
      exact ⟨by show 4 * nv b + S.P t ≤ S.P (t1 + 1); omega, i2⟩
theorem Tks.parl_4 {S : Tks} (hw : Wsp S) : ∀ (f : Nat) (l : List (Nat × Nat)) (t : Nat) (y : List (Nat × Nat)) (t' : Nat), S.parl f l t = ok y t' → 4 * y.length + S.P t ≤ S.P t' + 4 * l.length
  | 0, l, t, y, t', h => (no_ok h).elim
  | f + 1, l, t, y, t', h => by
    unfold Tks.parl at h
    split at h
    · exact (no_ok h).elim
    · rename_i z hz
      split at h
      · exact (no_ok h).elim
      · rename_i h22
        have p0 := Tks.ty_P4 hw hz (Decidable.not_not.mp h22)
        have p1 : S.P (t + 1) + 1 ≤ S.P (t + 2) := Tks.mono_k (Decidable.not_not.mp h22) (by decide)
        split at h
        · rename_i h44
          have p2 : S.P (t + 2) + 1 ≤ S.P (t + 3) := Tks.mono_k h44 (by decide)
          have := Tks.parl_4 hw f _ _ _ _ h
          rw [List.length_append] at this
          have : [(z, t + 1)].length = 1 := rfl
          omega
        · split at h
          · rename_i h41
            have p2 : S.P (t + 2) + 1 ≤ S.P (t + 3) := Tks.mono_k h41 (by decide)
            obtain ⟨rfl, rfl⟩ := ok_inj h
            rw [List.length_append]
            have : [(z, t + 1)].length = 1 := rfl
            omega
          · exact (no_ok h).elim
def MV4 (b : Mb) : Prop := b.1 = true → mbP b + nv (mbB b) ≤ 899 ∧ exW (mbB b)
theorem Tks.mem_4 {S : Tks} (hw : Wsp S) (hP : ∀ u, S.P u ≤ 3000) {r t : Nat} {b : Mb} {t' : Nat} (h : S.mem r t = ok b t') : MV4 b := by
  unfold Tks.mem at h
  split at h
  · exact (no_ok h).elim
  · split at h
    · exact (no_ok h).elim
    · split at h
      · obtain ⟨rfl, rfl⟩ := ok_inj h
        intro z
        cases z
      · obtain ⟨ps, t1, h1, h2⟩ := Pr.bind_eq_ok h
        obtain ⟨c, t2, h3, h4⟩ := Pr.bind_eq_ok h2
        obtain ⟨rfl, rfl⟩ := ok_inj h4
        obtain ⟨i1, i2⟩ := Tks.blk_4 S hw hP r _ _ _ h3
        intro _
        refine ⟨?_, i2⟩
        show ps.length + nv c.1 ≤ 899
        have p9 := hP t2
        unfold Tks.pars at h1
        split at h1
        · exact (no_ok h1).elim
        · split at h1
          · obtain ⟨rfl, rfl⟩ := ok_inj h1
            have : ([] : List (Nat × Nat)).length = 0 := rfl
            omega
          · have p3 := Tks.parl_4 hw _ _ _ _ _ h1
            have : ([] : List (Nat × Nat)).length = 0 := rfl
            omega
theorem Tks.mems_4 {S : Tks} (hw : Wsp S) (hP : ∀ u, S.P u ≤ 3000) {r : Nat} : ∀ (f t : Nat) (x : List Mb) (t' : Nat), S.mems r f t = ok x t' → ∀ b, b ∈ x → MV4 b
  | 0, t, x, t', h => (no_ok h).elim
  | f + 1, t, x, t', h => by
    unfold Tks.mems at h
    split at h
    · obtain ⟨rfl, rfl⟩ := ok_inj h
      intro b hb
      cases hb
    · obtain ⟨a, t1, h1, h2⟩ := Pr.bind_eq_ok h
      obtain ⟨l, t2, h3, h4⟩ := Pr.bind_eq_ok h2
      obtain ⟨rfl, rfl⟩ := ok_inj h4
      intro b hb
      rcases List.mem_cons.mp hb with z | z
      · rw [z]; exact Tks.mem_4 hw hP h1
      · exact Tks.mems_4 hw hP f _ _ _ h3 b z
theorem Tks.clsB_4 {S : Tks} (hw : Wsp S) (hP : ∀ u, S.P u ≤ 3000) {w p t : Nat} {o : Option Nat} {x : Cl} {t' : Nat} (h : S.clsB w p o t = ok x t') : ∀ b, b ∈ x.2.2.2 → MV4 b := by
  unfold Tks.clsB at h
  split at h
  · exact (no_ok h).elim
  · obtain ⟨m, t1, h1, h2⟩ := Pr.bind_eq_ok h
    obtain ⟨rfl, rfl⟩ := ok_inj h2
    exact Tks.mems_4 hw hP _ _ _ _ h1
theorem Tks.cls_4 {S : Tks} (hw : Wsp S) (hP : ∀ u, S.P u ≤ 3000) {t : Nat} {x : Cl} {t' : Nat} (h : S.cls t = ok x t') : ∀ b, b ∈ x.2.2.2 → MV4 b := by
  unfold Tks.cls at h
  split at h
  · exact (no_ok h).elim
  · split at h
    · split at h
      · exact (no_ok h).elim
      · exact Tks.clsB_4 hw hP h
    · exact Tks.clsB_4 hw hP h
theorem Tks.clss_4 {S : Tks} (hw : Wsp S) (hP : ∀ u, S.P u ≤ 3000) : ∀ (f t : Nat) (cs : List Cl) (t' : Nat), S.clss f t = ok cs t' → ∀ x, x ∈ cs → ∀ b, b ∈ x.2.2.2 → MV4 b
  | 0, t, cs, t', h => (no_ok h).elim
  | f + 1, t, cs, t', h => by
    unfold Tks.clss at h
    split at h
    · exact (no_ok h).elim
    · obtain ⟨c, t1, h1, h2⟩ := Pr.bind_eq_ok h
      have hc := Tks.cls_4 hw hP h1
      split at h2
      · obtain ⟨rfl, rfl⟩ := ok_inj h2
        intro x hx
        rw [List.mem_singleton.mp hx]
        exact hc
      · obtain ⟨l, t2, h3, h4⟩ := Pr.bind_eq_ok h2
        obtain ⟨rfl, rfl⟩ := ok_inj h4
        intro x hx
        rcases List.mem_cons.mp hx with z | z
        · rw [z]; exact hc
        · exact Tks.clss_4 hw hP f _ _ _ h3 x z
