/-! ===== STEPS keep all typed: words, objects ===== -/
theorem HpL.app (hp : List Ob) (ob : Ob) : HpL hp (hp ++ [ob]) := fun i o h => ⟨o.2, by rw [List.getElem?_append_left (List.getElem?_eq_some_iff.mp h).1]; exact h, rfl⟩
theorem obS_some {hp : List Ob} {o : Nat} {ob : Ob} (h : hp[o]? = some ob) (j : Nat) (v : Vl) : obS hp o j v = hp.set o (ob.1, ob.2.set j v) := by
  unfold obS
  rw [h]
theorem HpL.put {hp : List Ob} {o : Nat} {ob : Ob} (h : hp[o]? = some ob) (j : Nat) (v : Vl) : HpL hp (obS hp o j v) := by
  intro i x hx
  rw [obS_some h]
  have hl := (List.getElem?_eq_some_iff.mp h).1
  by_cases z : o = i
  · subst z
    rw [h] at hx
    obtain rfl := Option.some.inj hx
    exact ⟨ob.2.set j v, by rw [List.getElem?_set_self hl], by rw [List.length_set]⟩
  · exact ⟨x.2, by rw [List.getElem?_set_ne z]; exact hx, rfl⟩
/-- a word is put where its type is told -/
theorem HO.put {P : Pgm} {hp : List Ob} (ho : HO P hp) {o j : Nat} {ob : Ob} {v : Vl} (h : hp[o]? = some ob) (h5 : 5 ≤ o) (hv : match ob.1 with
    | some c => ∀ t, (P.fts c)[j]? = some t → VT P hp v t
    | none => ∃ n, v = .inl n) : HO P (obS hp o j v) := by
  have g := HpL.put h j v
  have hl := (List.getElem?_eq_some_iff.mp h).1
  refine ⟨fun i hi => ?_, fun i x hx => ?_⟩
  · rw [obS_some h, List.getElem?_set_ne (by omega)]
    exact ho.1 i hi
  · by_cases z : o = i
    · subst z
      rw [obS_some h, List.getElem?_set_self hl] at hx
      obtain rfl := Option.some.inj hx
      obtain ⟨o1, o2⟩ := ho.2 o ob h
      refine ⟨by show (ob.2.set j v).length ≤ 11000; rw [List.length_set]; exact o1, ?_⟩
      obtain ⟨oc, fs⟩ := ob
      cases oc with
      | some c =>
        obtain ⟨p1, p2, p3⟩ := o2
        refine ⟨p1, by show (fs.set j v).length = _; rw [List.length_set]; exact p2, fun i t u ht hu => ?_⟩
        have hu : (fs.set j v)[i]? = some u := hu
        by_cases y : j = i
        · subst y
          rw [List.getElem?_set] at hu
          rw [if_pos rfl] at hu
          split at hu
          · obtain rfl := Option.some.inj hu
            exact (hv t ht).mono g
          · cases hu
        · rw [List.getElem?_set_ne y] at hu
          exact (p3 i t u ht hu).mono g
      | none =>
        intro u hu
        have hu : u ∈ fs.set j v := hu
        rcases List.mem_or_eq_of_mem_set hu with z | z
        · exact o2 u z
        · rw [z]; exact hv
    · rw [obS_some h, List.getElem?_set_ne z] at hx
      obtain ⟨o1, o2⟩ := ho.2 i x hx
      refine ⟨o1, ?_⟩
      obtain ⟨oc, fs⟩ := x
      cases oc with
      | some c => exact ⟨o2.1, o2.2.1, fun j t u ht hu => (o2.2.2 j t u ht hu).mono g⟩
      | none => exact o2
/-- a new object -/
theorem HO.app {P : Pgm} {hp : List Ob} (ho : HO P hp) {ob : Ob} (hl : ob.2.length ≤ 11000) (h : match ob.1 with
    | some c => c < P.n ∧ ob.2.length = P.nf c ∧ ∀ (j t : Nat) (v : Vl), (P.fts c)[j]? = some t → ob.2[j]? = some v → VT P hp v t
    | none => ∀ v, v ∈ ob.2 → ∃ n, v = .inl n) : HO P (hp ++ [ob]) := by
  have g := HpL.app hp ob
  have h5 : 5 ≤ hp.length := by
    have := (List.getElem?_eq_some_iff.mp (ho.1 4 (by omega))).1
    omega
  refine ⟨fun i hi => by rw [List.getElem?_append_left (by omega)]; exact ho.1 i hi, fun i x hx => ?_⟩
  rcases Nat.lt_or_ge i hp.length with z | z
  · rw [List.getElem?_append_left z] at hx
    obtain ⟨o1, o2⟩ := ho.2 i x hx
    refine ⟨o1, ?_⟩
    obtain ⟨oc, fs⟩ := x
    cases oc with
    | some c => exact ⟨o2.1, o2.2.1, fun j t u ht hu => (o2.2.2 j t u ht hu).mono g⟩
    | none => exact o2
  · rw [List.getElem?_append_right z] at hx
    rcases hj : i - hp.length with _ | j
    · rw [hj] at hx
      obtain rfl : ob = x := Option.some.inj hx
      refine ⟨hl, ?_⟩
      obtain ⟨oc, fs⟩ := ob
      cases oc with
      | some c => exact ⟨h.1, h.2.1, fun j t u ht hu => (h.2.2 j t u ht hu).mono g⟩
      | none => exact h
    · rw [hj] at hx; cases hx
theorem isF_get {P : Pgm} {m : Nat} (h : P.isF m = true) : ∃ b, P.ms[m]? = some b ∧ b.1 = false ∧ P.mty m = P.rt b.2.1 := by
  unfold Pgm.isF at h
  rcases hb : P.ms[m]? with _ | b
  · rw [hb] at h; cases h
  · rw [hb] at h
    refine ⟨b, rfl, ?_, by unfold Pgm.mty; rw [hb]⟩
    cases q : b.1 with
    | false => rfl
    | true => have h : (!b.1) = true := h; rw [q] at h; cases h
theorem rt_le (P : Pgm) (y : Nat) : P.rt y < 4 ∨ P.rt y = 5 ∨ (10 ≤ P.rt y ∧ P.rt y - 10 < P.n) := by
  unfold Pgm.rt
  split
  · omega
  · split
    · rename_i c hc
      have := (Pgm.fnd_lt hc).1
      omega
    · omega
/-- a field's type -/
theorem fld_V {P : Pgm} (p3 : P.P3) (hB : P.badB = none) {m : Nat} (hf : P.isF m = true) : tyV P (P.mty m) := by
  obtain ⟨b, hb, hb1, hm⟩ := isF_get hf
  have h3 := p3.2 m b hb hb1
  have hml := (List.getElem?_eq_some_iff.mp hb).1
  obtain ⟨o1, o2, o3⟩ := Pgm.ow_at hml
  have hc5 : 5 ≤ P.ow m := by
    rcases Nat.lt_or_ge (P.ow m) 5 with z | z
    · have := Pgm.mf_5 (P := P) (c := P.ow m + 1) (by omega)
      omega
    · exact z
  have hmb := Pgm.badBF_none hB (P.ow m) hc5 (by have : P.n = 5 + P.2.length := rfl; omega) m o2 o3
  unfold Pgm.mbad at hmb
  rw [hb] at hmb
  have hmb : (!(if b.1 = true then P.mfine (P.ow m) m b else P.ffine (P.ow m) m b)) = false := hmb
  rw [if_neg (by rw [hb1]; exact Bool.false_ne_true)] at hmb
  have hff : P.ffine (P.ow m) m b = true := by
    cases q : P.ffine (P.ow m) m b with
    | true => rfl
    | false => rw [q] at hmb; cases hmb
  unfold Pgm.ffine at hff
  have h5 := of_decide_eq_true (Bool.and_eq_true_iff.mp hff).1
  rw [hm]
  have := rt_le P b.2.1
  unfold tyV
  omega
theorem Pgm.ofl_mem (P : Pgm) : ∀ (d i t : Nat), t ∈ P.ofl d i → ∃ m, P.isF m = true ∧ t = P.mty m
  | 0, i, t, h => by cases h
  | d + 1, i, t, h => by
    have h : t ∈ (if P.isF i = true then P.mty i :: P.ofl d (i + 1) else P.ofl d (i + 1)) := h
    split at h
    · rename_i hf
      rcases List.mem_cons.mp h with z | z
      · exact ⟨i, hf, z⟩
      · exact Pgm.ofl_mem P d _ t z
    · exact Pgm.ofl_mem P d _ t h
theorem Pgm.ftF_mem (P : Pgm) : ∀ (f c t : Nat), t ∈ P.ftF f c → ∃ m, P.isF m = true ∧ t = P.mty m
  | 0, c, t, h => by cases h
  | f + 1, c, t, h => by
    rw [Pgm.ftF_s] at h
    rcases List.mem_append.mp h with z | z
    · rcases hp : P.par c with _ | d
      · rw [hp] at z; cases z
      · rw [hp] at z
        exact Pgm.ftF_mem P f d t z
    · exact Pgm.ofl_mem P _ _ t z
theorem VT.dfl {P : Pgm} {hp : List Ob} {t : Nat} (h : tyV P t) : VT P hp (dfl t) t := by
  unfold _root_.Jvm.Pilot.CClassHouseLaw_law_r1304_8fbef6.dfl
  unfold tyV at h
  by_cases h0 : t = 0 ∨ t = 1
  · rw [if_pos h0]
    rcases h0 with rfl | rfl
    · exact VT.inl_ 0
    · exact Or.inr (Or.inl ⟨rfl, Or.inl rfl⟩)
  · rw [if_neg h0]
    exact VT.nul (by omega)
/-- a field of an object -/
theorem obF_T {P : Pgm} (ha : Acy P) {hp : List Ob} (ho : HO P hp) {i c t m : Nat} {fs : List Vl} {w : List Int32} (h : hp[i]? = some (some c, fs)) (hu : P.und c (t - 10) = true) (hm : P.fldT w t = some m) : VT P hp (obF hp i (P.mo m)) (P.mty m) ∧ P.mo m < fs.length ∧ P.isF m = true ∧ (P.fts c)[P.mo m]? = some (P.mty m) := by
  obtain ⟨_, p1, p2, p3⟩ := ho.2 i _ h
  obtain ⟨f1, f2, f3⟩ := Pgm.fldT_fts ha p1 hu hm
  have hl := (List.getElem?_eq_some_iff.mp f1).1
  rw [Pgm.fts_len ha _ c rfl p1] at hl
  have hl' : P.mo m < fs.length := by rw [show fs.length = P.nf c from p2]; exact hl
  refine ⟨?_, hl', f3, f1⟩
  unfold obF
  rw [h]
  have e : fs[P.mo m]? = some (fs[P.mo m]'hl') := List.getElem?_eq_getElem hl'
  show VT P hp ((fs[P.mo m]?).getD (.inl 0)) _
  rw [e]
  exact p3 _ _ _ f1 e
theorem fT_some {P : Pgm} {o : Option Nat} {t : Nat} (h : P.fT o = some [t]) : ∃ m, o = some m ∧ t = P.mty m ∧ t ≠ 5 := by
  cases o with
  | none => cases h
  | some m =>
    obtain ⟨h1, h2⟩ := tS_one (show tS (P.mty m) = some [t] from h)
    obtain ⟨rfl, _⟩ := List.cons.inj h1
    exact ⟨m, rfl, rfl, h2⟩
theorem fldT_10 {P : Pgm} {w : List Int32} {t m : Nat} (h : P.fldT w t = some m) : 10 ≤ t := by
  unfold Pgm.fldT at h
  split at h
  · cases h
  · omega
theorem clsT_some {P : Pgm} {w : List Int32} {t : Nat} (h : P.clsT w = some [t]) : ∃ d, P.fnd w = some d ∧ t = 10 + d := by
  unfold Pgm.clsT at h
  split at h
  · rename_i d hd
    exact ⟨d, hd, (List.cons.inj (Option.some.inj h)).1.symm⟩
  · cases h
theorem tyV_3 {P : Pgm} {t : Nat} (h : tyV P t) : t ≠ 3 := by unfold tyV at h; omega
/-- what a piece comes to is of its type -/
theorem wkV_T {P : Pgm} {S : Tks} (hP : PgF P S) {hp : List Ob} (ho : HO P hp) {c se k v w t : Nat} {E : EnvV} {lo : List Vl} {l : List Nat} {ops : List (Bool × Vl)} {a0 : List (Bool × Nat)} {s : Bool} (hse : ∃ d fs, hp[se]? = some (some d, fs) ∧ P.und d c = true) (hg : GE P E) (hl : LoT P hp E lo) (hk : kOk k v l) (k5 : k ≠ 5) (k13 : k ≠ 13) (k14 : k ≠ 14) (k30 : k ≠ 30) (ht : P.opT c E k w l = some [t]) (hops : OT P hp ops (popT k s l ++ a0)) : match P.wkV c E se lo hp k v w l (opV ops (l.length - 1)) (opV ops 0) with
    | .inl x => VT P hp x t ∧ t ≠ 3
    | .inr n => n < 5 := by
  obtain ⟨ha, hB, p5, p3, _⟩ := hP
  obtain ⟨d0, fs0, s1, s2⟩ := hse
  obtain ⟨hk1, hk2, hk3⟩ := hk
  have one : ∀ u, l = [u] → VT P hp (opV ops 0) u := fun u hu => by
    subst hu
    rw [popT_1 k30] at hops
    exact (hops.get (j := 0) (x := mk3 u) rfl).1
  have two : ∀ u u', l = [u, u'] → VT P hp (opV ops 1) u ∧ VT P hp (opV ops 0) u' := fun u u' hu => by
    subst hu
    rw [popT_2 k30] at hops
    exact ⟨(hops.get (j := 1) (x := mk3 u) rfl).1, (hops.get (j := 0) (x := mk3 u') rfl).1⟩
  have inj1 : ∀ {u : Nat}, some [u] = some [t] → u = t := fun z => (List.cons.inj (Option.some.inj z)).1
  have e1 : ∀ {x y : List Nat} {u : Nat}, eqT x y u = some [t] → t = u ∧ x = y := fun z => ⟨(List.cons.inj (eqT_one z).1).1, (eqT_one z).2⟩
  unfold Pgm.opT at ht
  rw [if_neg (show ¬ k = 70 by omega)] at ht
  unfold Pgm.wkV
  by_cases k1 : k = 1 ∨ k = 2
  · rw [if_pos k1]
    dsimp only
    rcases k1 with rfl | rfl
    · rw [if_neg (by omega), if_pos (by omega)] at ht
      obtain rfl := inj1 ht
      exact ⟨VT.inl_ _, by omega⟩
    · rw [if_neg (by omega), if_neg (by omega), if_pos rfl] at ht
      obtain rfl := inj1 ht
      have := hk3 rfl
      obtain rfl | rfl : v = 0 ∨ v = 1 := by omega
      · exact ⟨Or.inr (Or.inl ⟨rfl, Or.inl rfl⟩), by omega⟩
      · exact ⟨Or.inr (Or.inl ⟨rfl, Or.inr rfl⟩), by omega⟩
  rw [if_neg k1]
  by_cases k3 : k = 3
  · subst k3
    rw [if_pos rfl]
    rw [if_neg (by omega), if_neg (by omega), if_neg (by omega), if_pos rfl] at ht
    obtain rfl := inj1 ht
    exact ⟨VT.nul (by omega), by omega⟩
  rw [if_neg k3]
  by_cases k4 : k = 4
  · subst k4
    rw [if_pos rfl]
    rw [if_pos (by omega)] at ht
    obtain rfl := inj1 ht
    exact ⟨VT.ob (by omega) s1 (by rw [show 10 + c - 10 = c by omega]; exact s2), by omega⟩
  rw [if_neg k4]
  rw [if_neg (by omega), if_neg (by omega), if_neg (by omega), if_neg k3] at ht
  by_cases k6 : k = 6
  · subst k6
    rw [if_pos rfl]
    rw [if_pos rfl] at ht
    unfold Pgm.nmT at ht
    dsimp only
    rcases hf : E.fnd (P.1 w) with _ | i
    · rw [hf] at ht
      dsimp only at ht ⊢
      obtain ⟨m, hm, rfl, _⟩ := fT_some ht
      obtain ⟨q1, q2, q3, q4⟩ := obF_T ha ho s1 (t := 10 + c) (by rw [show 10 + c - 10 = c by omega]; exact s2) hm
      rw [hm]
      exact ⟨q1, tyV_3 (fld_V p3 hB q3)⟩
    · rw [hf] at ht
      dsimp only at ht ⊢
      split at ht
      · rename_i hset
        obtain ⟨h1, _⟩ := tS_one ht
        obtain ⟨rfl, _⟩ := List.cons.inj h1
        obtain ⟨i1, i2, i3, i4⟩ := fstN_some hf
        have hi : i < E.1.length := by omega
        have hx : E.1[i]? = some (E.1[i]'hi) := List.getElem?_eq_getElem hi
        have hil : i < lo.length := by rw [hl.1]; exact hi
        have hv : lo[i]? = some (lo[i]'hil) := List.getElem?_eq_getElem hil
        have hty : E.tyv i = (E.1[i]'hi).2 := by unfold EnvV.tyv; rw [hx]
        rw [hv, hty]
        refine ⟨?_, tyV_3 (hg i _ hx)⟩
        rcases hl.2.2 i _ _ hx hv with z | ⟨_, z⟩
        · exact z
        · unfold EnvV.isS at hset
          rw [hl.2.1, z] at hset
          cases hset
      · cases ht
  rw [if_neg k6] at ht ⊢
  rw [if_neg k13, if_neg k30] at ht
  by_cases k9 : k = 9
  · subst k9
    rw [if_pos rfl]
    rw [if_pos rfl] at ht
    match l, hk2 with
    | [u], hk2 =>
      have hv := one u rfl
      have hv' : VT P hp (opV ops ([u].length - 1)) u := hv
      dsimp only at ht
      unfold Pgm.dotT at ht
      by_cases hsz : u = 2 ∧ P.1 w = knW 7
      · rw [if_pos hsz] at ht
        obtain rfl := inj1 ht
        obtain ⟨rfl, hw⟩ := hsz
        rcases hv'.row with z | ⟨i, fs, z, _⟩
        · rw [z]; show (0 : Nat) < 5; omega
        · rw [z]
          dsimp only
          rw [if_pos ⟨rfl, hw⟩]
          exact ⟨VT.inl_ _, by omega⟩
      · rw [if_neg hsz] at ht
        obtain ⟨m, hm, rfl, _⟩ := fT_some ht
        have h10 := fldT_10 hm
        rcases hv'.obj h10 with z | ⟨i, c', fs, z, z1, z2⟩
        · rw [z]; show (0 : Nat) < 5; omega
        · rw [z]
          dsimp only
          rw [if_neg (show ¬ (lget [u] 0 = 2 ∧ P.1 w = knW 7) from hsz)]
          obtain ⟨q1, q2, q3, q4⟩ := obF_T ha ho z1 z2 hm
          rw [show lget [u] 0 = u from rfl, hm]
          exact ⟨q1, tyV_3 (fld_V p3 hB q3)⟩
  rw [if_neg k9] at ht ⊢
  by_cases k15 : k = 15
  · subst k15
    rw [if_neg (by omega), if_pos rfl]
    rw [if_pos rfl] at ht
    match l, hk2 with
    | [u], hk2 =>
      have hv' : VT P hp (opV ops ([u].length - 1)) u := one u rfl
      dsimp only at ht
      split at ht
      · rename_i hu
        have hu := of_decide_eq_true hu
        obtain ⟨d, hd, rfl⟩ := clsT_some ht
        have nn : ∀ x : Vl, x = .inr none → VT P hp x (10 + d) := fun x hx => by rw [hx]; exact VT.nul (by omega)
        have ob : ∀ i c' fs, hp[i]? = some (some c', fs) → (match (if P.isA hp i (P.fnd (P.1 w)) = true then Sum.inl (Sum.inr (some i)) else Sum.inr 3 : Vl ⊕ Nat) with
            | .inl x => VT P hp x (10 + d) ∧ 10 + d ≠ 3
            | .inr n => n < 5) := fun i c' fs h => by
          by_cases z : P.isA hp i (P.fnd (P.1 w)) = true
          · rw [if_pos z]
            refine ⟨VT.ob (by omega) h ?_, by omega⟩
            rw [hd] at z
            unfold Pgm.isA obC at z
            rw [h] at z
            rw [show 10 + d - 10 = d by omega]
            exact z
          · rw [if_neg z]; show (3 : Nat) < 5; omega
        rcases hu with rfl | hu
        · have z := hv'.null
          rw [z]
          exact ⟨VT.nul (by omega), by omega⟩
        · rcases hv'.obj hu with z | ⟨i, c', fs, z, z1, z2⟩
          · rw [z]
            exact ⟨VT.nul (by omega), by omega⟩
          · rw [z]
            exact ob i c' fs z1
      · cases ht
  rw [if_neg k15] at ht
  by_cases k16 : k = 16
  · subst k16
    rw [if_neg (by omega), if_neg (by omega), if_pos rfl]
    rw [if_pos rfl] at ht
    match l, hk2 with
    | [u], hk2 =>
      dsimp only at ht
      have ht1 : t = 1 := by
        split at ht
        · split at ht
          · exact (inj1 ht).symm
          · cases ht
        · cases ht
      subst ht1
      split
      · rename_i x hx
        split at hx
        · obtain rfl := Sum.inl.inj hx; exact ⟨VT.bV _, by omega⟩
        · obtain rfl := Sum.inl.inj hx; exact ⟨VT.bV _, by omega⟩
      · rename_i n hx
        split at hx <;> cases hx
  rw [if_neg k16] at ht
  by_cases k12 : k = 12
  · subst k12
    rw [if_pos rfl]
    rw [if_pos rfl] at ht
    obtain ⟨rfl, rfl⟩ := e1 ht
    obtain ⟨v1, v2⟩ := two 2 0 rfl
    show match (match opV ops 1 with
      | .inr (some i) => if 0 ≤ vI (opV ops 0) ∧ vI (opV ops 0) < Int32.ofNat (obL hp i) then Sum.inl (obF hp i (vI (opV ops 0)).toNatClampNeg) else Sum.inr 1
      | _ => Sum.inr 0 : Vl ⊕ Nat) with
      | .inl x => VT P hp x 0 ∧ 0 ≠ 3
      | .inr n => n < 5
    rcases v1.row with z | ⟨i, fs, z, z1⟩
    · rw [z]; show (0 : Nat) < 5; omega
    · rw [z]
      dsimp only
      split
      · rename_i x hx
        split at hx
        · obtain rfl := Sum.inl.inj hx
          refine ⟨?_, by omega⟩
          unfold obF
          rw [z1]
          dsimp only
          rcases hj : fs[(vI (opV ops 0)).toNatClampNeg]? with _ | u
          · exact VT.inl_ 0
          · obtain ⟨n, hn⟩ := (ho.2 i _ z1).2 u (List.mem_of_getElem? hj)
            rw [hn]
            exact VT.inl_ n
        · cases hx
      · rename_i n hx
        split at hx
        · cases hx
        · obtain rfl := Sum.inr.inj hx; show (1 : Nat) < 5; omega
  rw [if_neg k12] at ht ⊢
  rw [if_neg k14] at ht
  rw [if_neg k15, if_neg k16]
  by_cases k17 : k = 17
  · subst k17
    rw [if_pos rfl] at ht ⊢
    obtain ⟨rfl, _⟩ := e1 ht
    exact ⟨VT.inl_ _, by omega⟩
  rw [if_neg k17] at ht ⊢
  by_cases k18 : k = 18
  · subst k18
    rw [if_pos rfl] at ht ⊢
    obtain ⟨rfl, _⟩ := e1 ht
    exact ⟨VT.bV _, by omega⟩
  rw [if_neg k18] at ht ⊢
  unfold sgW
  obtain rfl | rfl | rfl | rfl | rfl | rfl | rfl | rfl | rfl : k = 19 ∨ k = 20 ∨ k = 21 ∨ k = 22 ∨ k = 23 ∨ k = 24 ∨ k = 25 ∨ k = 26 ∨ k = 27 := by omega
  · obtain ⟨rfl, _⟩ := e1 ht
    exact ⟨VT.inl_ _, by omega⟩
  · obtain ⟨rfl, _⟩ := e1 ht
    rw [if_neg (by omega), if_pos rfl]
    by_cases z : vI (opV ops 0) = 0
    · rw [if_pos z]; show (2 : Nat) < 5; omega
    · rw [if_neg z]; exact ⟨VT.inl_ _, by omega⟩
  · obtain ⟨rfl, _⟩ := e1 ht
    rw [if_neg (by omega), if_neg (by omega), if_pos rfl]
    by_cases z : vI (opV ops 0) = 0
    · rw [if_pos z]; show (2 : Nat) < 5; omega
    · rw [if_neg z]; exact ⟨VT.inl_ _, by omega⟩
  · obtain ⟨rfl, _⟩ := e1 ht
    exact ⟨VT.inl_ _, by omega⟩
  · obtain ⟨rfl, _⟩ := e1 ht
    exact ⟨VT.inl_ _, by omega⟩
  · obtain ⟨rfl, _⟩ := e1 ht
    exact ⟨VT.bV _, by omega⟩
  · obtain ⟨rfl, _⟩ := e1 ht
    exact ⟨VT.bV _, by omega⟩
  all_goals
    have h1 : t = 1 := by
      match l, hk2 with
      | [u, u'], hk2 =>
        have ht : (if P.cmpT u u' = true then some [1] else none) = some [t] := ht
        split at ht
        · exact (inj1 ht).symm
        · cases ht
    subst h1
    exact ⟨VT.bV _, by omega⟩
