/-! ===== places of members ===== -/
def Tks.MP (S : Tks) (b : Mb) : Prop := b.2.2.2.1 = S.P b.2.2.1 ∧ (b.1 = true → ∃ u, b.2.2.2.2.2.2 = S.P u)
theorem Tks.blk_pl {S : Tks} {r t : Nat} {x : Tr × Nat} {t' : Nat} (h : S.blk r t = ok x t') : ∃ u, x.2 = S.P u := by
  cases r with
  | zero => exact (no_ok h).elim
  | succ r =>
    unfold Tks.blk at h
    split at h
    · exact (no_ok h).elim
    · obtain ⟨b, t1, h1, h2⟩ := Pr.bind_eq_ok h
      obtain ⟨rfl, rfl⟩ := ok_inj h2
      exact ⟨t1, rfl⟩
theorem Tks.mem_pl {S : Tks} {r t : Nat} {b : Mb} {t' : Nat} (h : S.mem r t = ok b t') : S.MP b := by
  unfold Tks.mem at h
  split at h
  · exact (no_ok h).elim
  · split at h
    · exact (no_ok h).elim
    · split at h
      · obtain ⟨rfl, rfl⟩ := ok_inj h
        exact ⟨rfl, fun z => Bool.noConfusion z⟩
      · obtain ⟨ps, t1, h1, h2⟩ := Pr.bind_eq_ok h
        obtain ⟨x, t2, h3, h4⟩ := Pr.bind_eq_ok h2
        obtain ⟨rfl, rfl⟩ := ok_inj h4
        exact ⟨rfl, fun _ => Tks.blk_pl h3⟩
theorem Tks.mems_pl {S : Tks} {r : Nat} : ∀ (f t : Nat) (l : List Mb) (t' : Nat), S.mems r f t = ok l t' → ∀ x, x ∈ l → S.MP x
  | 0, t, l, t', h => (no_ok h).elim
  | f + 1, t, l, t', h => by
    unfold Tks.mems at h
    split at h
    · obtain ⟨rfl, rfl⟩ := ok_inj h
      intro x hx
      cases hx
    · obtain ⟨a, t1, h1, h2⟩ := Pr.bind_eq_ok h
      obtain ⟨b, t2, h3, h4⟩ := Pr.bind_eq_ok h2
      obtain ⟨rfl, rfl⟩ := ok_inj h4
      intro x hx
      rcases List.mem_cons.mp hx with z | z
      · rw [z]; exact Tks.mem_pl h1
      · exact Tks.mems_pl f _ _ _ h3 x z
theorem Tks.clsB_mp {S : Tks} {w p t : Nat} {o : Option Nat} {x : Cl} {t' : Nat} (h : S.clsB w p o t = ok x t') : ∀ b, b ∈ x.2.2.2 → S.MP b := by
  unfold Tks.clsB at h
  split at h
  · exact (no_ok h).elim
  · obtain ⟨m, t1, h1, h2⟩ := Pr.bind_eq_ok h
    obtain ⟨rfl, rfl⟩ := ok_inj h2
    exact Tks.mems_pl _ _ _ _ h1
theorem Tks.cls_mp {S : Tks} {t : Nat} {x : Cl} {t' : Nat} (h : S.cls t = ok x t') : ∀ b, b ∈ x.2.2.2 → S.MP b := by
  unfold Tks.cls at h
  split at h
  · exact (no_ok h).elim
  · split at h
    · split at h
      · exact (no_ok h).elim
      · exact Tks.clsB_mp h
    · exact Tks.clsB_mp h
theorem Tks.clss_mp {S : Tks} : ∀ (f t : Nat) (cs : List Cl) (t' : Nat), S.clss f t = ok cs t' → ∀ x, x ∈ cs → ∀ b, b ∈ x.2.2.2 → S.MP b
  | 0, t, cs, t', h => (no_ok h).elim
  | f + 1, t, cs, t', h => by
    unfold Tks.clss at h
    split at h
    · exact (no_ok h).elim
    · obtain ⟨c, t1, h1, h2⟩ := Pr.bind_eq_ok h
      have hc := Tks.cls_mp h1
      split at h2
      · obtain ⟨rfl, rfl⟩ := ok_inj h2
        intro x hx
        rw [List.mem_singleton.mp hx]
        exact hc
      · obtain ⟨l, t2, h3, h4⟩ := Pr.bind_eq_ok h2
        obtain ⟨rfl, rfl⟩ := ok_inj h4
        intro x hx
        rcases List.mem_cons.mp hx with z | z
        · rw [z]; exact hc
        · exact Tks.clss_mp f _ _ _ h3 x z
theorem Tks.prog_mp {S : Tks} {cs : List Cl} {t' : Nat} (h : S.prog = ok cs t') {ν : Nat → List Int32} {m : Nat} {b : Mb} (hb : (Pgm.ms (ν, cs))[m]? = some b) : S.MP b := by
  obtain ⟨x, hx, hbx⟩ := List.mem_flatMap.mp (List.mem_of_getElem? hb)
  exact Tks.clss_mp _ _ _ _ h x hx b hbx
theorem prog_mpl {T : Txt} {cs : List Cl} {t' : Nat} (hT : T.2 ≤ 3000) (hq : (tkS T).prog = ok cs t') (m : Nat) : Pgm.mpl (tkW T, cs) m ≤ 3000 := by
  unfold Pgm.mpl
  split
  · omega
  · rename_i b hb
    have := (Tks.prog_mp hq hb).1
    rw [this]
    have := (tkP_le T b.2.2.1).1
    show tkP T b.2.2.1 ≤ 3000
    omega
/-! ===== the method main ===== -/
def Pgm.hm (P : Pgm) : Bool := match P.hadO true (knW 6) (P.fnd (knW 5)) with
  | none => false
  | some m => match P.ms[m]? with
    | none => false
    | some b => decide (P.rt b.2.1 = 0) && decide (mbP b = 0)
theorem CM1.hasMain {P : Pgm} {D : List Int32 → Prop} {num : List Int32 → Nat} {N : Nat} {h : pH} (hN : 1100 ≤ N) (q : CT P D num h) (hp : CPr P h) (cm : CM1 P D num h) : fX0_hasMain N 50 h = some (kI P.hm, h) := by
  have hn := q.2.2.2.2.2.1
  have hl := q.2.2.2.2.2.2.2.2.2.1
  obtain ⟨k5, n5⟩ := q.2.2.2.1 5 (by decide)
  obtain ⟨k6, n6⟩ := q.2.2.2.1 6 (by decide)
  have fd := q.find (N := N) hN k5
  have hd := q.hadO (N := N) (kk := true) (d := -6) (o := P.fnd (knW 5)) hp hN k6 (by decide) (fun e he => (Pgm.fnd_lt he).1)
  rw [n5, show Int32.ofNat (21 + 5) = 26 from rfl] at fd
  rw [n6, show Int32.ofNat (21 + 6) = 27 from rfl, show kI true = 1 from rfl] at hd
  unfold fX0_hasMain Pgm.hm
  rw [if_pos (o_50 q.1), R_50_0 q.1, Option.bind_some, fd, Option.bind_some]
  dsimp only
  rw [R_50_1 q.1, Option.bind_some, hd, Option.bind_some]
  dsimp only
  rw [isNone_kI (fun e he => by have := Pgm.hadO_lt he; omega)]
  rcases ho : P.hadO true (knW 6) (P.fnd (knW 5)) with _ | m
  · rfl
  · have hm := Pgm.hadO_lt ho
    obtain ⟨b, hb⟩ : ∃ b, P.ms[m]? = some b := ⟨P.ms[m]'hm, List.getElem?_eq_getElem hm⟩
    have b1 := (Pgm.pf_succ hb).1
    have b2 := (Pgm.pf_succ hb).2
    have c2 := cm.2.1
    obtain ⟨x1, x2, x3⟩ := cm.2.2.1 m b hb
    have hc0 : (ctI (P.rt b.2.1) = -1) ↔ P.rt b.2.1 = 0 := by
      have := ctI_eq (P := P) (by omega) (P.rt_ok (y := b.2.1)) (show P.tOk 0 from Or.inl (by omega))
      rwa [show ctI 0 = -1 by decide] at this
    dsimp only
    rw [hb, if_neg (show ¬ (some m).isNone = true from Bool.false_ne_true), show oI (-1) (some m) = Int32.ofNat m from rfl, R_50_1 q.1, Option.bind_some, R_25_3 q.1, Option.bind_some, L_28 q.1 (by omega), Option.bind_some, x1, Option.bind_some, R_25_7 q.1, Option.bind_some, L_32 q.1 (by omega), Option.bind_some, x3, show (0 : Int32) = Int32.ofNat 0 from rfl, ifEq (by omega) (by omega)]
    dsimp only
    by_cases h1 : P.rt b.2.1 = 0
    · rw [if_pos (hc0.mpr h1), decide_eq_true h1, Bool.true_and]
      by_cases h2 : mbP b = 0
      · rw [if_pos h2, decide_eq_true h2]; rfl
      · rw [if_neg h2, decide_eq_false h2]; rfl
    · rw [if_neg (fun z => h1 (hc0.mp z)), decide_eq_false h1, Bool.false_and]; rfl
