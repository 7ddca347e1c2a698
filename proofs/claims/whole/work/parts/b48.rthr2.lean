/-! ===== THE REFERENCE throws: the things of a method ===== -/
def puT (a k : Nat) : Prop := a = 138 ∧ (k = 103 ∨ k = 106)
theorem thr_pass {g : pH} {N : Nat} {v1 v2 : Int32} {T : List It} : ∀ (us : List It) (h : pH), StV g h → (∀ it, it ∈ us → it.1 ≤ 6) → TdH (us ++ T) h → us.length + T.length < 400000 → ∃ h', (∀ d, fX12_throwsObject_17 N (d + us.length) 138 v1 v2 h = fX12_throwsObject_17 N d 138 v1 v2 h') ∧ TdH T h' ∧ Chg (fun a k => a = 138 ∧ k = 103) h h'
  | [], h, st, _, ht, _ => ⟨h, fun d => rfl, ht, Chg.refl _ _⟩
  | it :: us, h, st, hu, ht, hl => by
    rw [List.length_cons] at hl
    have hl1 : (us ++ T).length < 400000 := by rw [List.length_append]; omega
    have c1 : Chg (fun a k => a = 138 ∧ k = 103) h (wr h 138 103 (Int32.ofNat (us ++ T).length)) := Chg.wr h 138 103 _ ⟨rfl, rfl⟩
    have st1 : StV g (wr h 138 103 (Int32.ofNat (us ++ T).length)) := st.chg c1 (fun a k z => by omega)
    have ht : TdH (it :: (us ++ T)) h := ht
    obtain ⟨h', r1, r2, r3⟩ := thr_pass (N := N) (v1 := v1) (v2 := v2) us _ st1 (fun x hx => hu x (List.mem_cons_of_mem _ hx)) (ht.pop st.1).1 (by omega)
    refine ⟨h', fun d => ?_, r2, c1.trans r3⟩
    rw [List.length_cons, ← Nat.add_assoc, thr_n st ht hl1 (hu it (List.mem_cons_self ..)), r1]
theorem TdX.k2 {P : Pgm} {S : Tks} {num : List Int32 → Nat} {c : Nat} {E : EnvV} {g : pH} : ∀ {its : List It} {zs : List Xi}, TdX P S num c E g its zs → ∀ it, it ∈ its → it.1 ≤ 6
  | [], zs, _, it, hi => by cases hi
  | x :: its, zs, h, it, hi => by
    obtain ⟨ys, ws, rfl, h1, h2⟩ := h
    rcases List.mem_cons.mp hi with rfl | hi
    · rcases h1 with ⟨z, _⟩ | ⟨z, _⟩ | ⟨z, _⟩ <;> omega
    · exact TdX.k2 h2 it hi
theorem KtI.k6 {P : Pgm} {num : List Int32 → Nat} {c mt : Nat} {g : pH} {k : Nat} {E : EnvV} {b : Tr} {z : Bool} {t : List It} (h : KtI P num c mt g (k, E, b, z) t) (h4 : k ≠ 4) : ∀ it, it ∈ t → it.1 ≤ 6 := by
  intro it hi
  have one : ∀ x : It, x.1 ≤ 6 → it ∈ [x] → it.1 ≤ 6 := fun x hx hi => by
    rcases List.mem_cons.mp hi with rfl | hi
    · exact hx
    · cases hi
  rw [KtI_eq] at h
  by_cases k0 : k = 0
  · rw [if_pos k0] at h
    obtain ⟨_, _, _, _, _, rfl⟩ := h
    exact one _ (show 3 ≤ 6 by omega) hi
  rw [if_neg k0] at h
  by_cases k1 : k = 1
  · rw [if_pos k1] at h
    obtain ⟨_, _, _, _, _, rfl⟩ := h
    exact one _ (show 4 ≤ 6 by omega) hi
  rw [if_neg k1] at h
  by_cases k2 : k = 2
  · rw [if_pos k2] at h
    subst h
    exact one _ (show 5 ≤ 6 by omega) hi
  rw [if_neg k2] at h
  by_cases k3 : k = 3
  · rw [if_pos k3] at h
    obtain ⟨_, _, _, _, _, rfl⟩ := h
    rcases List.mem_cons.mp hi with rfl | hi
    · exact (show 5 ≤ 6 by omega)
    · rcases List.mem_cons.mp hi with rfl | hi
      · exact (show 0 ≤ 6 by omega)
      · exact one _ (show 4 ≤ 6 by omega) hi
  rw [if_neg k3, if_neg h4] at h
  by_cases k5 : k = 5
  · rw [if_pos k5] at h
    subst h
    split at hi
    · cases hi
    · exact one _ (show 6 ≤ 6 by omega) hi
  rw [if_neg k5] at h
  exact h.elim
/-- what comes of the things of a method -/
def ThK (P : Pgm) (num : List Int32 → Nat) (N c mt dd pb : Nat) (v1 : Int32) (g h : pH) (T : List It) (tr' : List (Nat × Nat)) (ks : List Si) (t2 : List It) : Prop := (P.thK dd ks = none → ∃ h' m, m ≤ t2.length ∧ (∀ d, fX12_throwsObject_17 N (d + m) 138 v1 (Int32.ofNat dd) h = fX12_throwsObject_17 N d 138 v1 (Int32.ofNat dd) h') ∧ TdH T h' ∧ TrH tr' h' ∧ Chg puT h h') ∧ ∀ E' b ks', P.thK dd ks = some (E', b, ks') → ∃ h' t2' s n l o m, m + 1 + t2'.length ≤ t2.length ∧ (∀ d, fX12_throwsObject_17 N (d + m) 138 v1 (Int32.ofNat dd) h = fX12_throwsObject_17 N d 138 v1 (Int32.ofNat dd) h') ∧ TdK P num c mt g ks' t2' ∧ RTb P num c mt g b E' o s n l ∧ TdH ((7, Int32.ofNat s) :: (t2' ++ T)) h' ∧ TrH ((pb, E'.1.length) :: (tyE pb ks' ++ tr')) h' ∧ Chg puT h h'
theorem thr_skip {P : Pgm} {num : List Int32 → Nat} {N c mt dd pb k : Nat} {v1 : Int32} {g h : pH} {T : List It} {tr' : List (Nat × Nat)} {ks : List Si} {E : EnvV} {b : Tr} {z : Bool} {u1 u2 : List It} (h4 : k ≠ 4) (st : StV g h) (hu : KtI P num c mt g (k, E, b, z) u1) (ht : TdH (u1 ++ u2 ++ T) h) (hl : (u1 ++ u2).length + T.length < 400000) (htr : TrH (tyE pb ((k, E, b, z) :: ks) ++ tr') h) (rec' : ∀ h', StV g h' → TdH (u2 ++ T) h' → TrH (tyE pb ks ++ tr') h' → rd h' 138 93 = rd h 138 93 → ThK P num N c mt dd pb v1 g h' T tr' ks u2) : ThK P num N c mt dd pb v1 g h T tr' ((k, E, b, z) :: ks) (u1 ++ u2) := by
  rw [List.append_assoc] at ht
  rw [List.length_append] at hl
  obtain ⟨h1, r1, r2, r3⟩ := thr_pass (N := N) (v1 := v1) (v2 := Int32.ofNat dd) u1 h st (hu.k6 h4) ht (by rw [List.length_append]; omega)
  have st1 : StV g h1 := st.chg r3 (fun a k z => by omega)
  have e1 : tyE pb ((k, E, b, z) :: ks) = tyE pb ks := by
    show (if k = 4 then _ else tyE pb ks) = tyE pb ks
    rw [if_neg h4]
  have e2 : P.thK dd ((k, E, b, z) :: ks) = P.thK dd ks := by
    show (if k = 4 then _ else P.thK dd ks) = P.thK dd ks
    rw [if_neg h4]
  rw [e1] at htr
  have c1 : Chg puT h h1 := r3.mono (fun a k z => by unfold puT; omega)
  obtain ⟨a1, a2⟩ := rec' h1 st1 r2 (htr.chg r3 (by omega) (fun a k z _ => by omega)) (r3.2.2.1 _ _ (by omega))
  refine ⟨fun hn => ?_, fun E' b' ks' hs => ?_⟩
  · rw [e2] at hn
    obtain ⟨h', m, b0, b1, b2, b3, b4⟩ := a1 hn
    refine ⟨h', m + u1.length, by rw [List.length_append]; omega, fun d => ?_, b2, b3, c1.trans b4⟩
    rw [← Nat.add_assoc, r1, b1]
  · rw [e2] at hs
    obtain ⟨h', t2', s, n, l, o, m, b0, b1, b2, b3, b4, b5, b6⟩ := a2 E' b' ks' hs
    refine ⟨h', t2', s, n, l, o, m + u1.length, by rw [List.length_append]; omega, fun d => ?_, b2, b3, b4, b5, c1.trans b6⟩
    rw [← Nat.add_assoc, r1, b1]
theorem thr_ks {P : Pgm} {S : Tks} {D : List Int32 → Prop} {num : List Int32 → Nat} {N c mt dd pb n : Nat} {v1 : Int32} {g : pH} {T : List It} {tr' : List (Nat × Nat)} (hN : 1100 ≤ N) (hrt : RT P D num g) (hrp : RPr P g) (ha : Acy P) (hd : dd < P.n) : ∀ (ks : List Si) (E : EnvV) (t2 : List It) (h : pH), KT P S c mt ks E → TdK P num c mt g ks t2 → StV g h → TdH (t2 ++ T) h → t2.length + T.length < 400000 → TrH (tyE pb ks ++ tr') h → rd h 138 93 = Int32.ofNat n → ThK P num N c mt dd pb v1 g h T tr' ks t2
  | [], E, t2, h, hk, ht2, st, ht, hl, htr, h93 => by
    have ht2 : t2 = [] := ht2
    subst ht2
    exact ⟨fun _ => ⟨h, 0, Nat.zero_le _, fun d => rfl, ht, htr, Chg.refl _ _⟩, fun E' b ks' hs => by cases hs⟩
  | (k, E1, b, z) :: ks, E, t2, h, hk, ht2, st, ht, hl, htr, h93 => by
    obtain ⟨u1, u2, rfl, y1, y2⟩ := ht2
    have go : k ≠ 4 → (∃ E2, KT P S c mt ks E2) → ThK P num N c mt dd pb v1 g h T tr' ((k, E1, b, z) :: ks) (u1 ++ u2) := fun h4 ⟨E2, hk2⟩ => thr_skip h4 st y1 ht hl htr (fun h' s1 s2 s3 s4 => thr_ks hN hrt hrp ha hd ks E2 u2 h' hk2 y2 s1 s2 (by rw [List.length_append] at hl; omega) s3 (s4.trans h93))
    unfold KT at hk
    by_cases k0 : k = 0
    · rw [if_pos k0] at hk
      obtain ⟨-, -, -, E2, -, hk2⟩ := hk
      exact go (by omega) ⟨E2, hk2⟩
    rw [if_neg k0] at hk
    by_cases k2 : k = 2
    · rw [if_pos k2] at hk
      exact go (by omega) ⟨_, hk.2⟩
    rw [if_neg k2] at hk
    by_cases k3 : k = 3
    · rw [if_pos k3] at hk
      exact go (by omega) ⟨_, hk.2.2.2.2.2⟩
    rw [if_neg k3] at hk
    by_cases k4 : k = 4
    · rw [if_pos k4] at hk
      subst k4
      obtain ⟨-, ⟨p, a, cw, w, b', r, rfl⟩, -, -, ⟨E2, hck⟩, hk2⟩ := hk
      rw [KtI_eq, if_neg (by omega), if_neg (by omega), if_neg (by omega), if_neg (by omega), if_pos rfl] at y1
      obtain ⟨o, s, n', l, r1, rfl⟩ := y1
      obtain ⟨E3, e, E0, E4, i1, i2, i3, -⟩ := inv_try hck
      have r1' := r1
      obtain ⟨r2, b1, -, -⟩ := r1'
      rw [(sz_try p a cw w b' r).1] at b1
      rw [RTc_try] at r2
      obtain ⟨-, -, -, -, -, r3⟩ := r2
      obtain ⟨r4, -⟩ := r3 e E0 i2 i3
      have he : e < P.n := (Pgm.fnd_lt i2).1
      have ht : TdH ((7, Int32.ofNat s) :: (u2 ++ T)) h := ht
      have htr : TrH ((pb, E1.1.length) :: (tyE pb ks ++ tr')) h := htr
      have e2 : P.thK dd ((4, E1, bTry p a cw w b' r, z) :: ks) = if P.und dd e = true then some (E1, bTry p a cw w b' r, ks) else P.thK dd ks := by
        show (match P.fnd (P.1 cw) with
          | some e => if P.und dd e = true then some (E1, bTry p a cw w b' r, ks) else P.thK dd ks
          | none => P.thK dd ks) = _
        rw [i2]
      rw [List.length_append] at hl
      have hl1 : (u2 ++ T).length < 400000 := by rw [List.length_append]; omega
      by_cases hu : P.und dd e = true
      · rw [if_pos hu] at e2
        refine ⟨fun hn => (by rw [e2] at hn; cases hn), fun E' b ks' hs => ?_⟩
        rw [e2] at hs
        have hs := Option.some.inj hs
        injection hs with z1 z2
        injection z2 with z2 z3
        subst z1
        subst z2
        subst z3
        exact ⟨h, u2, s, n', l, o, 0, by rw [List.length_append]; show 0 + 1 + u2.length ≤ 1 + u2.length; omega, fun d => rfl, y2, r1, ht, htr, Chg.refl _ _⟩
      · rw [if_neg hu] at e2
        have hu : P.und dd e = false := by
          cases q : P.und dd e with
          | false => rfl
          | true => exact absurd q hu
        have c1 : Chg puT h (wr (wr h 138 103 (Int32.ofNat (u2 ++ T).length)) 138 106 (Int32.ofNat (tyE pb ks ++ tr').length)) := (Chg.wr h 138 103 _ ⟨rfl, Or.inl rfl⟩).trans (Chg.wr _ 138 106 _ ⟨rfl, Or.inr rfl⟩)
        have s1 := st.1.wr 138 103 (Int32.ofNat (u2 ++ T).length)
        have st1 := st.chg c1 (fun a k z => by unfold puT; omega)
        have td1 : TdH (u2 ++ T) (wr (wr h 138 103 (Int32.ofNat (u2 ++ T).length)) 138 106 (Int32.ofNat (tyE pb ks ++ tr').length)) := (ht.pop st.1).1.chg (Chg.wr (A := fun a k => a = 138 ∧ k = 106) _ 138 106 _ ⟨rfl, rfl⟩) (by omega) (fun a k z _ => by omega)
        have tr1 : TrH (tyE pb ks ++ tr') (wr (wr h 138 103 (Int32.ofNat (u2 ++ T).length)) 138 106 (Int32.ofNat (tyE pb ks ++ tr').length)) := by
          refine ⟨w_138_106 s1 _, fun j x hj => ?_⟩
          have := htr.2 (j + 1) x hj
          have hjl := (List.getElem?_eq_some_iff.mp hj).1
          rw [List.length_cons, show (tyE pb ks ++ tr').length + 1 - 1 - (j + 1) = (tyE pb ks ++ tr').length - 1 - j by omega] at this
          rw [c1.2.2.1 _ _ (by unfold puT; omega), c1.2.2.1 _ _ (by unfold puT; omega)]
          exact this
        have r0 : ∀ d, fX12_throwsObject_17 N (d + 1) 138 v1 (Int32.ofNat dd) h = fX12_throwsObject_17 N d 138 v1 (Int32.ofNat dd) _ := fun d => thr_7n (d := d) (v1 := v1) (m := (tyE pb ks ++ tr').length) hN hrt hrp ha hd he st ht hl1 (by omega) h93 htr.1 r4 hu
        obtain ⟨a1, a2⟩ := thr_ks (v1 := v1) (n := n) (T := T) (tr' := tr') (pb := pb) hN hrt hrp ha hd ks E u2 _ hk2 y2 st1 td1 (by omega) tr1 ((c1.2.2.1 _ _ (by unfold puT; omega)).trans h93)
        refine ⟨fun hn => ?_, fun E' b ks' hs => ?_⟩
        · rw [e2] at hn
          obtain ⟨h', m, b0, b1, b2, b3, b4⟩ := a1 hn
          refine ⟨h', m + 1, by rw [List.length_append]; show m + 1 ≤ 1 + u2.length; omega, fun d => ?_, b2, b3, c1.trans b4⟩
          rw [← Nat.add_assoc, r0, b1]
        · rw [e2] at hs
          obtain ⟨h', t2', s', n2, l2, o2, m, b0, b1, b2, b3, b4, b5, b6⟩ := a2 E' b ks' hs
          refine ⟨h', t2', s', n2, l2, o2, m + 1, by rw [List.length_append]; show m + 1 + 1 + t2'.length ≤ 1 + u2.length; omega, fun d => ?_, b2, b3, b4, b5, c1.trans b6⟩
          rw [← Nat.add_assoc, r0, b1]
    · rw [if_neg k4] at hk
      exact hk.elim
theorem thr_kh {P : Pgm} {S : Tks} {D : List Int32 → Prop} {num : List Int32 → Nat} {N c mt dd pb n : Nat} {v1 : Int32} {g : pH} {T : List It} {tr' : List (Nat × Nat)} (hN : 1100 ≤ N) (hrt : RT P D num g) (hrp : RPr P g) (ha : Acy P) (hd : dd < P.n) {ks : List Si} {E : EnvV} {t2 : List It} {h : pH} {a : List (Bool × Nat)} (hk : KH P S c mt ks E a) (ht2 : TdK P num c mt g ks t2) (st : StV g h) (ht : TdH (t2 ++ T) h) (hl : t2.length + T.length < 400000) (htr : TrH (tyE pb ks ++ tr') h) (h93 : rd h 138 93 = Int32.ofNat n) : ThK P num N c mt dd pb v1 g h T tr' ks t2 := by
  match ks, hk, ht2, htr with
  | [], hk, ht2, htr => exact thr_ks hN hrt hrp ha hd [] E t2 h hk.2 ht2 st ht hl htr h93
  | (k, E1, b, z) :: ks, hk, ht2, htr =>
    have ht20 := ht2
    obtain ⟨u1, u2, rfl, y1, y2⟩ := ht2
    have go : k ≠ 4 → (∃ E2, KT P S c mt ks E2) → ThK P num N c mt dd pb v1 g h T tr' ((k, E1, b, z) :: ks) (u1 ++ u2) := fun h4 ⟨E2, hk2⟩ => thr_skip h4 st y1 ht hl htr (fun h' s1 s2 s3 s4 => thr_ks hN hrt hrp ha hd ks E2 u2 h' hk2 y2 s1 s2 (by rw [List.length_append] at hl; omega) s3 (s4.trans h93))
    unfold KH at hk
    dsimp only at hk
    by_cases k1 : k = 1
    · rw [if_pos k1] at hk
      exact go (by omega) ⟨_, hk.2.2.2.2.2.2⟩
    rw [if_neg k1] at hk
    by_cases k5 : k = 5
    · rw [if_pos k5] at hk
      exact go (by omega) ⟨_, hk.2⟩
    rw [if_neg k5] at hk
    exact thr_ks hN hrt hrp ha hd _ E _ h hk.2 ht20 st ht hl htr h93
