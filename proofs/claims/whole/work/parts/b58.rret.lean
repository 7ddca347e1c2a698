/-! ===== THE REFERENCE'S STEPS: returning ===== -/
section RT1
variable {g h : pH} {N d : Nat} {v2 v3 v4 : Int32} {it : It} {T : List It}
theorem ret_n (st : StV g h) (ht : TdH (it :: T) h) (hl : T.length < 400000) (hk : it.1 ≤ 6) : fX12_returns_60 N (d + 1) 138 v2 v3 v4 h = fX12_returns_60 N d 138 v2 v3 v4 (wr h 138 103 (Int32.ofNat T.length)) := by
  have sg := st.1
  obtain ⟨q1, q2, q3, q4⟩ := ht.pop sg
  have s1 := sg.wr 138 103 (Int32.ofNat T.length)
  rw [fX12_returns_60, R_138_104 sg, Option.bind_some, g_138_103 sg, Option.bind_some, q4, i_sub1, L_201 sg hl, Option.bind_some, q2, if_neg (show ¬ Int32.ofNat it.1 = 8 from fun z => absurd ((iEq (a := it.1) (b := 8) (by omega) (by omega)).mp z) (by omega))]
  simp only [Option.bind_some]
  rw [i_sub1, p_138_103 sg, Option.bind_some, R_138_104 s1, Option.bind_some, g_138_103 s1, Option.bind_some, w_138_103 sg, L_201 s1 hl, Option.bind_some, rd_wr_ne _ _ (by omega), q2, if_neg (show ¬ Int32.ofNat it.1 = 7 from fun z => absurd ((iEq (a := it.1) (b := 7) (by omega) (by omega)).mp z) (by omega))]
theorem ret_7 {m : Nat} (st : StV g h) (ht : TdH (it :: T) h) (hl : T.length < 400000) (hk : it.1 = 7) (h106 : rd h 138 106 = Int32.ofNat (m + 1)) : fX12_returns_60 N (d + 1) 138 v2 v3 v4 h = fX12_returns_60 N d 138 v2 v3 v4 (wr (wr h 138 103 (Int32.ofNat T.length)) 138 106 (Int32.ofNat m)) := by
  have sg := st.1
  obtain ⟨q1, q2, q3, q4⟩ := ht.pop sg
  have s1 := sg.wr 138 103 (Int32.ofNat T.length)
  rw [fX12_returns_60, R_138_104 sg, Option.bind_some, g_138_103 sg, Option.bind_some, q4, i_sub1, L_201 sg hl, Option.bind_some, q2, hk, if_neg (by decide)]
  simp only [Option.bind_some]
  rw [i_sub1, p_138_103 sg, Option.bind_some, R_138_104 s1, Option.bind_some, g_138_103 s1, Option.bind_some, w_138_103 sg, L_201 s1 hl, Option.bind_some, rd_wr_ne _ _ (by omega), q2, hk, if_pos (by rfl), g_138_106 s1, Option.bind_some, rd_wr_ne _ _ (by omega), h106, i_sub1, p_138_106 s1, Option.bind_some]
end RT1
theorem ret_pass {g : pH} {N : Nat} {v2 v3 v4 : Int32} {T : List It} : ∀ (us : List It) (h : pH), StV g h → (∀ it, it ∈ us → it.1 ≤ 6) → TdH (us ++ T) h → us.length + T.length < 400000 → ∃ h', (∀ d, fX12_returns_60 N (d + us.length) 138 v2 v3 v4 h = fX12_returns_60 N d 138 v2 v3 v4 h') ∧ TdH T h' ∧ Chg (fun a k => a = 138 ∧ k = 103) h h'
  | [], h, st, _, ht, _ => ⟨h, fun d => rfl, ht, Chg.refl _ _⟩
  | it :: us, h, st, hu, ht, hl => by
    rw [List.length_cons] at hl
    have hl1 : (us ++ T).length < 400000 := by rw [List.length_append]; omega
    have c1 : Chg (fun a k => a = 138 ∧ k = 103) h (wr h 138 103 (Int32.ofNat (us ++ T).length)) := Chg.wr h 138 103 _ ⟨rfl, rfl⟩
    have st1 : StV g (wr h 138 103 (Int32.ofNat (us ++ T).length)) := st.chg c1 (fun a k z => by omega)
    have ht : TdH (it :: (us ++ T)) h := ht
    obtain ⟨h', r1, r2, r3⟩ := ret_pass (N := N) (v2 := v2) (v3 := v3) (v4 := v4) us _ st1 (fun x hx => hu x (List.mem_cons_of_mem _ hx)) (ht.pop st.1).1 (by omega)
    refine ⟨h', fun d => ?_, r2, c1.trans r3⟩
    rw [List.length_cons, ← Nat.add_assoc, ret_n st ht hl1 (hu it (List.mem_cons_self ..)), r1]
theorem ret_ks {P : Pgm} {num : List Int32 → Nat} {c mt N pb : Nat} {v2 v3 v4 : Int32} {g : pH} {T : List It} {tr' : List (Nat × Nat)} : ∀ (ks : List Si) (t2 : List It) (h : pH), TdK P num c mt g ks t2 → StV g h → TdH (t2 ++ T) h → t2.length + T.length < 400000 → TrH (tyE pb ks ++ tr') h → ∃ h', (∀ d, fX12_returns_60 N (d + t2.length) 138 v2 v3 v4 h = fX12_returns_60 N d 138 v2 v3 v4 h') ∧ TdH T h' ∧ TrH tr' h' ∧ Chg puT h h'
  | [], t2, h, ht2, st, ht, hl, htr => by
    have ht2 : t2 = [] := ht2
    subst ht2
    exact ⟨h, fun d => rfl, ht, htr, Chg.refl _ _⟩
  | (k, E, b, z) :: ks, t2, h, ht2, st, ht, hl, htr => by
    obtain ⟨u1, u2, rfl, y1, y2⟩ := ht2
    rw [List.length_append] at hl
    rw [List.append_assoc] at ht
    suffices hq : ∃ h1, (∀ d, fX12_returns_60 N (d + u1.length) 138 v2 v3 v4 h = fX12_returns_60 N d 138 v2 v3 v4 h1) ∧ TdH (u2 ++ T) h1 ∧ TrH (tyE pb ks ++ tr') h1 ∧ Chg puT h h1 by
      obtain ⟨h1, r1, r2, r3, r4⟩ := hq
      obtain ⟨h2, s1, s2, s3, s4⟩ := ret_ks (N := N) (v2 := v2) (v3 := v3) (v4 := v4) ks u2 h1 y2 (st.chg r4 (fun a k z => by unfold puT; omega)) r2 (by omega) r3
      refine ⟨h2, fun d => ?_, s2, s3, r4.trans s4⟩
      rw [List.length_append, show d + (u1.length + u2.length) = d + u2.length + u1.length by omega, r1, s1]
    by_cases k4 : k = 4
    · subst k4
      rw [KtI_eq, if_neg (by omega), if_neg (by omega), if_neg (by omega), if_neg (by omega), if_pos rfl] at y1
      obtain ⟨o, s, n', l, -, rfl⟩ := y1
      have ht : TdH ((7, Int32.ofNat s) :: (u2 ++ T)) h := ht
      have htr : TrH ((pb, E.1.length) :: (tyE pb ks ++ tr')) h := htr
      have c1 : Chg puT h (wr (wr h 138 103 (Int32.ofNat (u2 ++ T).length)) 138 106 (Int32.ofNat (tyE pb ks ++ tr').length)) := (Chg.wr h 138 103 _ ⟨rfl, Or.inl rfl⟩).trans (Chg.wr _ 138 106 _ ⟨rfl, Or.inr rfl⟩)
      refine ⟨_, fun d => ret_7 st ht (by rw [List.length_append]; omega) rfl htr.1, (ht.pop st.1).1.chg (Chg.wr (A := fun a k => a = 138 ∧ k = 106) _ 138 106 _ ⟨rfl, rfl⟩) (by omega) (fun a k z _ => by omega), ⟨w_138_106 (st.1.wr 138 103 _) _, fun j x hj => ?_⟩, c1⟩
      have := htr.2 (j + 1) x hj
      have hjl := (List.getElem?_eq_some_iff.mp hj).1
      rw [List.length_cons, show (tyE pb ks ++ tr').length + 1 - 1 - (j + 1) = (tyE pb ks ++ tr').length - 1 - j by omega] at this
      rw [c1.2.2.1 _ _ (by unfold puT; omega), c1.2.2.1 _ _ (by unfold puT; omega)]
      exact this
    · have e1 : tyE pb ((k, E, b, z) :: ks) = tyE pb ks := by
        show (if k = 4 then _ else tyE pb ks) = tyE pb ks
        rw [if_neg k4]
      rw [e1] at htr
      obtain ⟨h1, r1, r2, r3⟩ := ret_pass (N := N) (v2 := v2) (v3 := v3) (v4 := v4) u1 h st (y1.k6 k4) ht (by rw [List.length_append]; omega)
      exact ⟨h1, r1, r2, htr.chg r3 (by omega) (fun a k z _ => by omega), r3.mono (fun a k z => by unfold puT; omega)⟩
