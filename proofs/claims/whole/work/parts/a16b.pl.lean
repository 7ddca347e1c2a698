/-- a class' place is its name's -/
theorem Tks.clsB_pl {S : Tks} {w p t : Nat} {o : Option Nat} {x : Cl} {t' : Nat} (h : S.clsB w p o t = ok x t') : x.1 = w ∧ x.2.1 = p := by
  unfold Tks.clsB at h
  split at h
  · exact (no_ok h).elim
  · obtain ⟨m, t1, h1, h2⟩ := Pr.bind_eq_ok h
    obtain ⟨rfl, rfl⟩ := ok_inj h2
    exact ⟨rfl, rfl⟩
theorem Tks.cls_pl {S : Tks} {t : Nat} {x : Cl} {t' : Nat} (h : S.cls t = ok x t') : x.2.1 = S.P x.1 := by
  unfold Tks.cls at h
  split at h
  · exact (no_ok h).elim
  · split at h
    · split at h
      · exact (no_ok h).elim
      · obtain ⟨h1, h2⟩ := Tks.clsB_pl h
        rw [h1, h2]
    · obtain ⟨h1, h2⟩ := Tks.clsB_pl h
      rw [h1, h2]
theorem Tks.clss_pl {S : Tks} : ∀ (f t : Nat) (cs : List Cl) (t' : Nat), S.clss f t = ok cs t' → ∀ x, x ∈ cs → x.2.1 = S.P x.1
  | 0, t, cs, t', h => (no_ok h).elim
  | f + 1, t, cs, t', h => by
    unfold Tks.clss at h
    split at h
    · exact (no_ok h).elim
    · obtain ⟨c, t1, h1, h2⟩ := Pr.bind_eq_ok h
      have hc := Tks.cls_pl h1
      split at h2
      · obtain ⟨rfl, rfl⟩ := ok_inj h2
        intro x hx
        rw [List.mem_singleton.mp hx]
        exact hc
      · obtain ⟨l, t2, h3, h4⟩ := Pr.bind_eq_ok h2
        obtain ⟨rfl, rfl⟩ := ok_inj h4
        intro x hx
        rcases List.mem_cons.mp hx with z | z
        · rw [z]; exact hc
        · exact Tks.clss_pl f _ _ _ h3 x z
theorem Tks.prog_pl {S : Tks} {cs : List Cl} {t' : Nat} (h : S.prog = ok cs t') : ∀ x, x ∈ cs → x.2.1 = S.P x.1 := Tks.clss_pl _ _ _ _ h
