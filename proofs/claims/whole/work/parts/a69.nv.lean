/-! ===== HOW MANY VARIABLES A METHOD CAN TELL, how deep its blocks lie ===== -/
def NvS (S : Tks) (r : Nat) (a : Tr) (t t' : Nat) : Prop := ∃ m d, (∀ b, nv (bSeq a b) = m + nv b ∧ dp (bSeq a b) ≤ max d (dp b)) ∧ 3 * m + S.P t ≤ S.P t' ∧ d ≤ r
theorem Tks.semi_P {α : Type} {S : Tks} {a x : α} {t t' : Nat} (h : S.semi a t = ok x t') : S.P t + 1 ≤ S.P t' := by
  unfold Tks.semi at h
  split at h
  · rename_i h5
    obtain ⟨h6, h7⟩ := ok_inj h
    have := Tks.mono_k h5 (by decide)
    subst h7
    omega
  · exact (no_ok h).elim
theorem Tks.ty_P {S : Tks} {t y : Nat} (h : S.ty t = some y) : S.P t + 1 ≤ S.P (t + 1) := by
  unfold Tks.ty at h
  split at h
  · exact Tks.mono_k (by assumption) (by decide)
  · split at h
    · exact Tks.mono_k (by assumption) (by decide)
    · split at h
      · exact Tks.mono_k (by assumption) (by decide)
      · split at h
        · exact Tks.mono_k (by assumption) (by decide)
        · cases h
theorem Tks.stm_nv {S : Tks} {r : Nat} {bk : Nat → Pr (Tr × Nat)} (hb : ∀ t x t', bk t = ok x t' → 3 * nv x.1 + S.P t ≤ S.P t' ∧ dp x.1 + 1 ≤ r) {t : Nat} {a : Tr} {t' : Nat} (h : S.stm r bk t = ok a t') : NvS S r a t t' := by
  have wk : ∀ k, (k = 41 ∨ k = 42 ∨ k = 43) → S.K t ≠ 0 → S.workS r k t = ok a t' → NvS S r a t t' := by
    intro k hk h0 h
    obtain ⟨y, u, h1, h2⟩ := Pr.bind_eq_ok h
    have p1 := Tks.expr_cap S r _ _ _ h1
    have p2 := Tks.semi_P h2
    have p3 := S.mono t h0
    obtain rfl := Tks.semi_inv h2
    refine ⟨0, 0, fun b => ?_, by omega, Nat.zero_le _⟩
    have := nv_k (k := k) (by omega) (S.P t) y b
    exact ⟨by show nv (nd k (S.P t) 0 y b) = _; rw [this.1]; omega, by show dp (nd k (S.P t) 0 y b) ≤ _; rw [this.2]; omega⟩
  unfold Tks.stm at h
  split at h
  · unfold Tks.tellS at h
    split at h
    · exact (no_ok h).elim
    · rename_i y hy
      have p0 := Tks.ty_P hy
      split at h
      · exact (no_ok h).elim
      · rename_i h22
        have h22 := Decidable.not_not.mp h22
        have p1 : S.P (t + 1) + 1 ≤ S.P (t + 2) := Tks.mono_k h22 (by decide)
        split at h
        · rename_i h61
          have p2 : S.P (t + 2) + 1 ≤ S.P (t + 3) := Tks.mono_k h61 (by decide)
          obtain ⟨e, u, h1, h2⟩ := Pr.bind_eq_ok h
          have p3 := Tks.expr_cap S r _ _ _ h1
          have p4 := Tks.semi_P h2
          obtain rfl := Tks.semi_inv h2
          exact ⟨1, 0, fun b => ⟨rfl, Nat.le_max_right 0 (dp b)⟩, by omega, Nat.zero_le _⟩
        · have p4 := Tks.semi_P h
          obtain rfl := Tks.semi_inv h
          exact ⟨1, 0, fun b => ⟨rfl, Nat.le_max_right 0 (dp b)⟩, by omega, Nat.zero_le _⟩
  · split at h
    · rename_i hk6
      have p0 := Tks.mono_k hk6 (by decide)
      obtain ⟨c, t1, h1, h2⟩ := Pr.bind_eq_ok h
      obtain ⟨x, t2, h3, h4⟩ := Pr.bind_eq_ok h2
      have p1 := Tks.brk_cap (Tks.expr_cap S (r - 1)) (by decide) (by decide) h1
      obtain ⟨p2, d2⟩ := hb _ _ _ h3
      split at h4
      · rename_i hk7
        have p3 := Tks.mono_k hk7 (by decide)
        obtain ⟨y, t3, h5, h6⟩ := Pr.bind_eq_ok h4
        obtain ⟨p4, d4⟩ := hb _ _ _ h5
        obtain ⟨rfl, rfl⟩ := ok_inj h6
        refine ⟨nv x.1 + nv y.1, max (dp x.1) (dp y.1) + 1, fun b => ⟨rfl, Nat.le_refl _⟩, by omega, by omega⟩
      · obtain ⟨rfl, rfl⟩ := ok_inj h4
        refine ⟨nv x.1, max (dp x.1) 0 + 1, fun b => ⟨rfl, Nat.le_refl _⟩, by omega, by omega⟩
    · split at h
      · rename_i hk8
        have p0 := Tks.mono_k hk8 (by decide)
        obtain ⟨c, t1, h1, h2⟩ := Pr.bind_eq_ok h
        obtain ⟨x, t2, h3, h4⟩ := Pr.bind_eq_ok h2
        have p1 := Tks.brk_cap (Tks.expr_cap S (r - 1)) (by decide) (by decide) h1
        obtain ⟨p2, d2⟩ := hb _ _ _ h3
        obtain ⟨rfl, rfl⟩ := ok_inj h4
        refine ⟨nv x.1, dp x.1 + 1, fun b => ⟨rfl, Nat.le_refl _⟩, by omega, by omega⟩
      · split at h
        · rename_i hk11
          have p0 := Tks.mono_k hk11 (by decide)
          obtain ⟨x, t1, h1, h2⟩ := Pr.bind_eq_ok h
          obtain ⟨p1, d1⟩ := hb _ _ _ h1
          split at h2
          · exact (no_ok h2).elim
          · rename_i k0
            have p2 := Tks.mono_k (Decidable.not_not.mp k0) (by decide)
            split at h2
            · exact (no_ok h2).elim
            · rename_i k0'
              have p3 : S.P (t1 + 1) + 1 ≤ S.P (t1 + 2) := Tks.mono_k (Decidable.not_not.mp (fun z => k0' (Or.inl z))) (by decide)
              split at h2
              · exact (no_ok h2).elim
              · rename_i k1
                have p4 : S.P (t1 + 2) + 1 ≤ S.P (t1 + 3) := Tks.mono_k (Decidable.not_not.mp k1) (by decide)
                split at h2
                · exact (no_ok h2).elim
                · rename_i k2
                  have p5 : S.P (t1 + 3) + 1 ≤ S.P (t1 + 4) := Tks.mono_k (Decidable.not_not.mp k2) (by decide)
                  split at h2
                  · exact (no_ok h2).elim
                  · rename_i k3
                    have p6 : S.P (t1 + 4) + 1 ≤ S.P (t1 + 5) := Tks.mono_k (Decidable.not_not.mp k3) (by decide)
                    obtain ⟨y, t3, h5, h6⟩ := Pr.bind_eq_ok h2
                    obtain ⟨p7, d7⟩ := hb _ _ _ h5
                    obtain ⟨rfl, rfl⟩ := ok_inj h6
                    refine ⟨1 + nv x.1 + nv y.1, max (dp x.1) (dp y.1) + 1, fun b => ⟨rfl, Nat.le_refl _⟩, by omega, by omega⟩
        · split at h
          · rename_i hk9
            split at h
            · rename_i hk59
              have p0 := Tks.mono_k hk9 (by decide)
              have p1 : S.P (t + 1) + 1 ≤ S.P (t + 2) := Tks.mono_k hk59 (by decide)
              obtain ⟨rfl, rfl⟩ := ok_inj h
              exact ⟨0, 0, fun b => ⟨(Nat.zero_add _).symm, Nat.le_max_right 0 (dp b)⟩, by omega, Nat.zero_le _⟩
            · exact wk 41 (by omega) (by rw [hk9]; decide) h
          · split at h
            · rename_i hk10
              exact wk 42 (by omega) (by rw [hk10]; decide) h
            · split at h
              · rename_i hk13
                exact wk 43 (by omega) (by rw [hk13]; decide) h
              · obtain ⟨x, t1, h1, h2⟩ := Pr.bind_eq_ok h
                have p1 := Tks.expr_cap S r _ _ _ h1
                split at h2
                · rename_i hp
                  have p2 := Tks.mono_k hp.1 (by decide)
                  obtain ⟨y, t2, h3, h4⟩ := Pr.bind_eq_ok h2
                  have p3 := Tks.expr_cap S r _ _ _ h3
                  have p4 := Tks.semi_P h4
                  obtain rfl := Tks.semi_inv h4
                  exact ⟨0, 0, fun b => ⟨(Nat.zero_add _).symm, Nat.le_max_right 0 (dp b)⟩, by omega, Nat.zero_le _⟩
                · split at h2
                  · rename_i hp
                    have p2 := Tks.mono_k hp.1 (by decide)
                    obtain ⟨rfl, rfl⟩ := ok_inj h2
                    exact ⟨0, 0, fun b => ⟨(Nat.zero_add _).symm, Nat.le_max_right 0 (dp b)⟩, by omega, Nat.zero_le _⟩
                  · exact (no_ok h2).elim
theorem Tks.stms_nv {S : Tks} {r : Nat} {bk : Nat → Pr (Tr × Nat)} (hb : ∀ t x t', bk t = ok x t' → 3 * nv x.1 + S.P t ≤ S.P t' ∧ dp x.1 + 1 ≤ r) : ∀ (f t : Nat) (x : Tr) (t' : Nat), S.stms r bk f t = ok x t' → 3 * nv x + S.P t ≤ S.P t' ∧ dp x ≤ r
  | 0, t, x, t', h => (no_ok h).elim
  | f + 1, t, x, t', h => by
    unfold Tks.stms at h
    split at h
    · obtain ⟨rfl, rfl⟩ := ok_inj h
      exact ⟨by show 3 * 0 + _ ≤ _; omega, Nat.zero_le _⟩
    · obtain ⟨a, t1, h1, h2⟩ := Pr.bind_eq_ok h
      obtain ⟨b, t2, h3, h4⟩ := Pr.bind_eq_ok h2
      obtain ⟨rfl, rfl⟩ := ok_inj h4
      obtain ⟨m, d, q1, q2, q3⟩ := Tks.stm_nv hb h1
      obtain ⟨i1, i2⟩ := Tks.stms_nv hb f _ _ _ h3
      have := q1 b
      omega
theorem Tks.blk_nv (S : Tks) : ∀ (r t : Nat) (x : Tr × Nat) (t' : Nat), S.blk r t = ok x t' → 3 * nv x.1 + S.P t ≤ S.P t' ∧ dp x.1 + 1 ≤ r
  | 0, t, x, t', h => (no_ok h).elim
  | r + 1, t, x, t', h => by
    unfold Tks.blk at h
    split at h
    · exact (no_ok h).elim
    · rename_i h0
      have p0 := Tks.mono_k (Decidable.not_not.mp h0) (by decide)
      obtain ⟨b, t1, h1, h2⟩ := Pr.bind_eq_ok h
      obtain ⟨rfl, rfl⟩ := ok_inj h2
      obtain ⟨i1, i2⟩ := Tks.stms_nv (Tks.blk_nv S r) _ _ _ _ h1
      have p1 := (Tks.stms_adv (Tks.blk_adv S r) _ _ _ _ h1).2.2
      have p2 := Tks.mono_k p1 (by decide)
      exact ⟨by show 3 * nv b + S.P t ≤ S.P (t1 + 1); omega, by show dp b + 1 ≤ r + 1; omega⟩
theorem Tks.parl_nv {S : Tks} : ∀ (f : Nat) (l : List (Nat × Nat)) (t : Nat) (y : List (Nat × Nat)) (t' : Nat), S.parl f l t = ok y t' → 3 * y.length + S.P t ≤ S.P t' + 3 * l.length
  | 0, l, t, y, t', h => (no_ok h).elim
  | f + 1, l, t, y, t', h => by
    unfold Tks.parl at h
    split at h
    · exact (no_ok h).elim
    · rename_i z hz
      have p0 := Tks.ty_P hz
      split at h
      · exact (no_ok h).elim
      · rename_i h22
        have p1 : S.P (t + 1) + 1 ≤ S.P (t + 2) := Tks.mono_k (Decidable.not_not.mp h22) (by decide)
        split at h
        · rename_i h44
          have p2 : S.P (t + 2) + 1 ≤ S.P (t + 3) := Tks.mono_k h44 (by decide)
          have := Tks.parl_nv f _ _ _ _ h
          rw [List.length_append] at this
          have : [(z, t + 1)].length = 1 := rfl
          omega
        · split at h
          · rename_i h41
            have p2 : S.P (t + 2) + 1 ≤ S.P (t + 3) := Tks.mono_k h41 (by decide)
            obtain ⟨rfl, rfl⟩ := ok_inj h
            rw [List.length_append]
            have : [(z, t + 1)].length = 1 := rfl
            omega
          · exact (no_ok h).elim
/-- a method's variables and depth -/
def MV (S : Tks) (b : Mb) : Prop := b.1 = true → dp (mbB b) ≤ 30 ∧ ∃ u, 3 * (mbP b + nv (mbB b)) + 3 ≤ S.P u
theorem Tks.mem_nv {S : Tks} {r t : Nat} {b : Mb} {t' : Nat} (hr : r ≤ 30) (h : S.mem r t = ok b t') : MV S b := by
  unfold Tks.mem at h
  split at h
  · exact (no_ok h).elim
  · rename_i y hy
    have p0 : S.P t + 1 ≤ S.P (t + 1) := by
      unfold Tks.rty at hy
      split at hy
      · exact Tks.mono_k (by assumption) (by decide)
      · exact Tks.ty_P hy
    split at h
    · exact (no_ok h).elim
    · rename_i h22
      have p1 : S.P (t + 1) + 1 ≤ S.P (t + 2) := Tks.mono_k (Decidable.not_not.mp h22) (by decide)
      split at h
      · obtain ⟨rfl, rfl⟩ := ok_inj h
        intro z
        cases z
      · obtain ⟨ps, t1, h1, h2⟩ := Pr.bind_eq_ok h
        obtain ⟨c, t2, h3, h4⟩ := Pr.bind_eq_ok h2
        obtain ⟨rfl, rfl⟩ := ok_inj h4
        obtain ⟨i1, i2⟩ := Tks.blk_nv S r _ _ _ h3
        intro _
        refine ⟨by show dp c.1 ≤ 30; omega, t2, ?_⟩
        show 3 * (ps.length + nv c.1) + 3 ≤ S.P t2
        unfold Tks.pars at h1
        split at h1
        · exact (no_ok h1).elim
        · rename_i h40
          have p2 : S.P (t + 2) + 1 ≤ S.P (t + 3) := Tks.mono_k (Decidable.not_not.mp (fun z => h40 (Or.inl z))) (by decide)
          split at h1
          · rename_i h41
            have p3 : S.P (t + 3) + 1 ≤ S.P (t + 4) := Tks.mono_k h41 (by decide)
            obtain ⟨rfl, rfl⟩ := ok_inj h1
            have : ([] : List (Nat × Nat)).length = 0 := rfl
            have p4 : S.P (t + 2 + 2) = S.P (t + 4) := rfl
            omega
          · have p3 := Tks.parl_nv _ _ _ _ _ h1
            have : ([] : List (Nat × Nat)).length = 0 := rfl
            have p4 : S.P (t + 2 + 1) = S.P (t + 3) := rfl
            omega
theorem Tks.mems_nv {S : Tks} {r : Nat} (hr : r ≤ 30) : ∀ (f t : Nat) (x : List Mb) (t' : Nat), S.mems r f t = ok x t' → ∀ b, b ∈ x → MV S b
  | 0, t, x, t', h => (no_ok h).elim
  | f + 1, t, x, t', h => by
    unfold Tks.mems at h
    split at h
    · obtain ⟨rfl, rfl⟩ := ok_inj h
      intro b hb
      cases hb
    · obtain ⟨a, t1, h1, h2⟩ := Pr.bind_eq_ok h
      obtain ⟨l, t2, h3, h4⟩ := Pr.bind_eq_ok h2
      obtain ⟨rfl, rfl⟩ := ok_inj h4
      intro b hb
      rcases List.mem_cons.mp hb with z | z
      · rw [z]; exact Tks.mem_nv hr h1
      · exact Tks.mems_nv hr f _ _ _ h3 b z
theorem Tks.clsB_nv {S : Tks} {w p t : Nat} {o : Option Nat} {x : Cl} {t' : Nat} (h : S.clsB w p o t = ok x t') : ∀ b, b ∈ x.2.2.2 → MV S b := by
  unfold Tks.clsB at h
  split at h
  · exact (no_ok h).elim
  · obtain ⟨m, t1, h1, h2⟩ := Pr.bind_eq_ok h
    obtain ⟨rfl, rfl⟩ := ok_inj h2
    exact Tks.mems_nv (by omega) _ _ _ _ h1
theorem Tks.cls_nv {S : Tks} {t : Nat} {x : Cl} {t' : Nat} (h : S.cls t = ok x t') : ∀ b, b ∈ x.2.2.2 → MV S b := by
  unfold Tks.cls at h
  split at h
  · exact (no_ok h).elim
  · split at h
    · split at h
      · exact (no_ok h).elim
      · exact Tks.clsB_nv h
    · exact Tks.clsB_nv h
theorem Tks.clss_nv {S : Tks} : ∀ (f t : Nat) (cs : List Cl) (t' : Nat), S.clss f t = ok cs t' → ∀ x, x ∈ cs → ∀ b, b ∈ x.2.2.2 → MV S b
  | 0, t, cs, t', h => (no_ok h).elim
  | f + 1, t, cs, t', h => by
    unfold Tks.clss at h
    split at h
    · exact (no_ok h).elim
    · obtain ⟨c, t1, h1, h2⟩ := Pr.bind_eq_ok h
      have hc := Tks.cls_nv h1
      split at h2
      · obtain ⟨rfl, rfl⟩ := ok_inj h2
        intro x hx
        rw [List.mem_singleton.mp hx]
        exact hc
      · obtain ⟨l, t2, h3, h4⟩ := Pr.bind_eq_ok h2
        obtain ⟨rfl, rfl⟩ := ok_inj h4
        intro x hx
        rcases List.mem_cons.mp hx with z | z
        · rw [z]; exact hc
        · exact Tks.clss_nv f _ _ _ h3 x z
/-- what badB leaves: types that are types -/
theorem Pgm.t5 {P : Pgm} (hB : P.badB = none) {m : Nat} {b : Mb} (hb : P.ms[m]? = some b) (hbm : b.1 = true) : P.rt b.2.1 ≠ 5 ∧ P.pfine b = true := by
  have hm := (List.getElem?_eq_some_iff.mp hb).1
  obtain ⟨o1, o2, o3⟩ := Pgm.ow_at hm
  have hc5 : 5 ≤ P.ow m := by
    rcases Nat.lt_or_ge (P.ow m) 5 with z | z
    · have := Pgm.mf_5 (P := P) (c := P.ow m + 1) (by omega)
      omega
    · exact z
  have hmb := Pgm.badBF_none hB (P.ow m) hc5 (by have : P.n = 5 + P.2.length := rfl; omega) m o2 o3
  unfold Pgm.mbad at hmb
  rw [hb] at hmb
  have hmf : P.mfine (P.ow m) m b = true := by
    have h1 : (!(if b.1 = true then P.mfine (P.ow m) m b else P.ffine (P.ow m) m b)) = false := hmb
    rw [hbm, if_pos rfl] at h1
    cases z : P.mfine (P.ow m) m b with
    | true => rfl
    | false => rw [z] at h1; cases h1
  unfold Pgm.mfine at hmf
  obtain ⟨h1, h2⟩ := Bool.and_eq_true_iff.mp hmf
  exact ⟨of_decide_eq_true h1, (Bool.and_eq_true_iff.mp h2).1⟩
theorem Pgm.gp {S : Tks} {nmw : Nat → List Int32} {cs : List Cl} {t' : Nat} (h : S.prog = ok cs t') (hP : ∀ u, S.P u ≤ 3000) (hB : Pgm.badB (nmw, cs) = none) : GP S (nmw, cs) := by
  intro m b hb hbm
  have hmem : b ∈ Pgm.ms (nmw, cs) := List.mem_of_getElem? hb
  obtain ⟨x, hx, hbx⟩ := List.mem_flatMap.mp hmem
  obtain ⟨g1, g2, g3⟩ := (Tks.prog_gb h).1 x hx
  obtain ⟨v1, u, v2⟩ := Tks.clss_nv _ _ _ _ h x hx b hbx hbm
  obtain ⟨n, hg⟩ := (g3 b hbx).2.2.2.1
  have := hP u
  exact ⟨⟨n, hg.gk⟩, v1, by omega, (Pgm.t5 hB hb hbm).1⟩
