/-! ===== THE REFERENCE settles: single moves ===== -/
theorem r_leaf {g h : pH} {N j : Nat} (st : StV g h) (hj : j < 3200) : fX12_isLeaf N 138 (Int32.ofNat j) h = some (if rd g 144 j ≤ 5 ∨ rd g 144 j = 19 ∨ rd g 144 j = 20 ∨ rd g 144 j = 21 then 1 else 0, h) := by
  have sg := st.1
  have e0 : rd h 144 j = rd g 144 j := st.2.1 144 j (by omega) (by omega)
  unfold fX12_isLeaf
  rw [if_pos (o_138 sg)]
  simp only [R_138_16 sg, Option.bind_some, L_144 sg hj, e0]
  by_cases h1 : rd g 144 j ≤ 5
  · rw [if_pos h1, if_pos (Or.inl h1)]
  · rw [if_neg h1]
    by_cases h2 : rd g 144 j = 19
    · rw [if_pos h2, if_pos (Or.inr (Or.inl h2))]
    · rw [if_neg h2]
      by_cases h3 : rd g 144 j = 20
      · rw [if_pos h3, if_pos (Or.inr (Or.inr (Or.inl h3)))]
      · rw [if_neg h3]
        by_cases h4 : rd g 144 j = 21
        · rw [if_pos h4, if_pos (Or.inr (Or.inr (Or.inr h4)))]
        · rw [if_neg h4, if_neg (by
            intro z
            rcases z with z | z | z | z
            · exact h1 z
            · exact h2 z
            · exact h3 z
            · exact h4 z)]
/-- is the thing on top a step? -/
theorem r_isStep {g h : pH} {N : Nat} {it : It} {T : List It} (st : StV g h) (ht : TdH (it :: T) h) (hl : T.length < 400000) (hk : it.1 ≤ 8) : fX12_isStep N 138 h = if it.1 = 1 ∨ it.1 = 2 ∨ it.1 = 4 then some (1, h) else if it.1 = 0 then (fX12_isLeaf N 138 it.2 h).bind fun q => if q.1 = 0 then some (0, q.2) else some (1, q.2) else some (0, h) := by
  have sg := st.1
  obtain ⟨q1, q2, q3, q4⟩ := ht.pop sg
  unfold fX12_isStep
  rw [if_pos (o_138 sg), R_138_104 sg, Option.bind_some, g_138_103 sg, Option.bind_some, q4, i_sub1, L_201 sg hl, Option.bind_some, q2]
  have hb : ∀ j, j ≤ 8 → (Int32.ofNat it.1 = Int32.ofNat j) = (it.1 = j) := fun j hj => iEq (by omega) (by omega)
  by_cases h1 : it.1 = 1
  · rw [if_pos (show Int32.ofNat it.1 = 1 by rw [h1]; rfl), if_pos (Or.inl h1)]
  rw [if_neg (show ¬ Int32.ofNat it.1 = 1 from fun z => h1 ((hb 1 (by omega)).mp z))]
  by_cases h2 : it.1 = 2
  · rw [if_pos (show Int32.ofNat it.1 = 2 by rw [h2]; rfl), if_pos (Or.inr (Or.inl h2))]
  rw [if_neg (show ¬ Int32.ofNat it.1 = 2 from fun z => h2 ((hb 2 (by omega)).mp z))]
  by_cases h4 : it.1 = 4
  · rw [if_pos (show Int32.ofNat it.1 = 4 by rw [h4]; rfl), if_pos (Or.inr (Or.inr h4))]
  rw [if_neg (show ¬ Int32.ofNat it.1 = 4 from fun z => h4 ((hb 4 (by omega)).mp z)), if_neg (show ¬ (it.1 = 1 ∨ it.1 = 2 ∨ it.1 = 4) by omega)]
  by_cases h0 : it.1 = 0
  · rw [if_pos (show Int32.ofNat it.1 = 0 by rw [h0]; rfl), if_pos h0, R_138_105 sg, Option.bind_some, Option.bind_some, i_sub1, L_202 sg hl, Option.bind_some, q3]
  · rw [if_neg (show ¬ Int32.ofNat it.1 = 0 from fun z => h0 ((hb 0 (by omega)).mp z)), if_neg h0]
/-- one round of settling -/
theorem set_go {g h : pH} {N d : Nat} {it : It} {T : List It} (st : StV g h) (h70 : rd h 138 70 = 0) (ht : TdH (it :: T) h) (hl : T.length < 400000) (hns : fX12_isStep N 138 h = some (0, h)) : fX12_settle_0 N (d + 1) 138 h = (if Int32.ofNat it.1 = 0 then ((fX12_unfold N 138 it.2 (wr h 138 103 (Int32.ofNat T.length))).bind fun h24 => fX12_settle_0 N d 138 h24) else if Int32.ofNat it.1 = 1 then fX12_settle_0 N d 138 (wr h 138 103 (Int32.ofNat T.length)) else if Int32.ofNat it.1 = 2 then fX12_settle_0 N d 138 (wr h 138 103 (Int32.ofNat T.length)) else if Int32.ofNat it.1 = 3 then (if 0 ≤ it.2 then ((getR (wr h 138 103 (Int32.ofNat T.length)) 138 12 36).bind fun t26 => (ldI (wr h 138 103 (Int32.ofNat T.length)) t26 it.2).bind fun t27 => (fX12_todo N 138 (3 : Int32) t27 (wr h 138 103 (Int32.ofNat T.length))).bind fun h28 => (fX12_begins N 138 it.2 h28).bind fun h29 => fX12_settle_0 N d 138 h29) else fX12_settle_0 N d 138 (wr h 138 103 (Int32.ofNat T.length))) else if Int32.ofNat it.1 = 4 then fX12_settle_0 N d 138 (wr h 138 103 (Int32.ofNat T.length)) else if Int32.ofNat it.1 = 5 then ((getR (wr h 138 103 (Int32.ofNat T.length)) 138 12 96).bind fun t30 => (getI (wr h 138 103 (Int32.ofNat T.length)) 138 12 93).bind fun t31 => (stI (wr h 138 103 (Int32.ofNat T.length)) t30 (t31 - (1 : Int32)) it.2).bind fun h32 => fX12_settle_0 N d 138 h32) else if Int32.ofNat it.1 = 6 then ((getI (wr h 138 103 (Int32.ofNat T.length)) 138 12 100).bind fun t33 => (putI (wr h 138 103 (Int32.ofNat T.length)) 138 12 100 (t33 - (1 : Int32))).bind fun h34 => fX12_settle_0 N d 138 h34) else if Int32.ofNat it.1 = 7 then ((getI (wr h 138 103 (Int32.ofNat T.length)) 138 12 106).bind fun t35 => (putI (wr h 138 103 (Int32.ofNat T.length)) 138 12 106 (t35 - (1 : Int32))).bind fun h36 => fX12_settle_0 N d 138 h36) else if Int32.ofNat it.1 = 8 then ((getI (wr h 138 103 (Int32.ofNat T.length)) 138 12 93).bind fun t37 => (putI (wr h 138 103 (Int32.ofNat T.length)) 138 12 93 (t37 - (1 : Int32))).bind fun h38 => fX12_settle_0 N d 138 h38) else fX12_settle_0 N d 138 (wr h 138 103 (Int32.ofNat T.length))) := by
  have sg := st.1
  obtain ⟨q1, q2, q3, q4⟩ := ht.pop sg
  have s1 := sg.wr 138 103 (Int32.ofNat T.length)
  rw [fX12_settle_0, g_138_70 sg, Option.bind_some, h70, if_pos rfl, g_138_103 sg, Option.bind_some, q4, if_neg (show ¬ Int32.ofNat (T.length + 1) ≤ 0 by rw [show (0 : Int32) = Int32.ofNat 0 from rfl, iLe (by omega) (by omega)]; omega), hns, Option.bind_some]
  dsimp only
  rw [if_pos rfl, g_138_103 sg, Option.bind_some, q4, i_sub1, p_138_103 sg, Option.bind_some, R_138_105 s1, Option.bind_some, g_138_103 s1, Option.bind_some, w_138_103 sg, L_202 s1 hl, Option.bind_some, rd_wr_ne _ _ (by omega), q3, R_138_104 s1]
  simp only [Option.bind_some]
  rw [L_201 s1 hl, Option.bind_some, rd_wr_ne _ _ (by omega), q2]
  rfl
theorem set_stop {g h : pH} {N d : Nat} {it : It} {T : List It} (st : StV g h) (h70 : rd h 138 70 = 0) (ht : TdH (it :: T) h) (hl : T.length < 400000) (hns : fX12_isStep N 138 h = some (1, h)) : fX12_settle_0 N (d + 1) 138 h = some h := by
  have sg := st.1
  obtain ⟨q1, q2, q3, q4⟩ := ht.pop sg
  rw [fX12_settle_0, g_138_70 sg, Option.bind_some, h70, if_pos rfl, g_138_103 sg, Option.bind_some, q4, if_neg (show ¬ Int32.ofNat (T.length + 1) ≤ 0 by rw [show (0 : Int32) = Int32.ofNat 0 from rfl, iLe (by omega) (by omega)]; omega), hns, Option.bind_some]
  dsimp only
  rw [if_neg (by decide)]
theorem set_end {h : pH} {N d : Nat} (sg : Sg h) (h70 : rd h 138 70 ≠ 0) : fX12_settle_0 N (d + 1) 138 h = some h := by
  rw [fX12_settle_0, g_138_70 sg, Option.bind_some, if_neg h70]
/-- kinds of leaves and of others -/
theorem rnK_lf {P : Pgm} {num : List Int32 → Nat} {c : Nat} {E : EnvV} {k v w : Nat} {a : Tr} {l : List Nat} (h : lfK k) : (P.rnK num c E k v w a l).1 ≤ 5 ∨ (P.rnK num c E k v w a l).1 = 19 ∨ (P.rnK num c E k v w a l).1 = 20 ∨ (P.rnK num c E k v w a l).1 = 21 := by
  by_cases h6 : k = 6
  · subst h6
    unfold Pgm.rnK
    rw [if_pos rfl]
    split
    · exact Or.inr (Or.inl rfl)
    · exact Or.inr (Or.inr (Or.inl rfl))
  · unfold lfK at h
    rw [rnK_v h6 (by omega)]
    have : k = 1 ∨ k = 2 ∨ k = 3 ∨ k = 4 ∨ k = 5 ∨ k = 13 := by omega
    rcases this with rfl | rfl | rfl | rfl | rfl | rfl
    · exact Or.inl (show (0 : Int32) ≤ 5 by decide)
    · exact Or.inr (Or.inr (Or.inr rfl))
    · exact Or.inl (show (1 : Int32) ≤ 5 by decide)
    · exact Or.inl (show (2 : Int32) ≤ 5 by decide)
    · exact Or.inl (show (3 : Int32) ≤ 5 by decide)
    · exact Or.inl (show (5 : Int32) ≤ 5 by decide)
theorem rnK_nl {P : Pgm} {num : List Int32 → Nat} {c : Nat} {E : EnvV} {k v w : Nat} {a : Tr} {l : List Nat} (h1 : 1 ≤ k) (h2 : k ≤ 30) (h : ¬ lfK k) (h7 : k ≠ 7 ∧ k ≠ 8 ∧ k ≠ 10 ∧ k ≠ 11) : ¬ ((P.rnK num c E k v w a l).1 ≤ 5 ∨ (P.rnK num c E k v w a l).1 = 19 ∨ (P.rnK num c E k v w a l).1 = 20 ∨ (P.rnK num c E k v w a l).1 = 21) := by
  unfold lfK at h
  by_cases h9 : k = 9
  · subst h9
    rcases rnK_9 (P := P) (num := num) (c := c) (E := E) (v := v) (w := w) (a := a) (l := l) with z | z <;> rw [z] <;> decide
  · rw [rnK_v (by omega) h9]
    by_cases h30 : k = 30
    · subst h30
      show ¬ ((if ownT a = true then (9 : Int32) else 8) ≤ 5 ∨ (if ownT a = true then (9 : Int32) else 8) = 19 ∨ (if ownT a = true then (9 : Int32) else 8) = 20 ∨ (if ownT a = true then (9 : Int32) else 8) = 21)
      cases ownT a <;> decide
    · have e : nK k a = nK k nl := by
        unfold nK
        simp only [if_neg h30]
      rw [e]
      have : k = 12 ∨ k = 14 ∨ k = 15 ∨ k = 16 ∨ k = 17 ∨ k = 18 ∨ k = 19 ∨ k = 20 ∨ k = 21 ∨ k = 22 ∨ k = 23 ∨ k = 24 ∨ k = 25 ∨ k = 26 ∨ k = 27 ∨ k = 28 ∨ k = 29 := by omega
      rcases this with rfl | rfl | rfl | rfl | rfl | rfl | rfl | rfl | rfl | rfl | rfl | rfl | rfl | rfl | rfl | rfl | rfl <;> decide
theorem kd_ok {S : Tks} {q : Nat} {e : Tr} (h : OkE S (q + 1) e) : 1 ≤ kd e ∧ kd e ≤ 30 ∧ kd e ≠ 7 ∧ kd e ≠ 8 ∧ kd e ≠ 10 ∧ kd e ≠ 11 := by
  rcases h with ⟨k, v, rfl, hh⟩ | ⟨k, w, rfl, hh, _⟩ | ⟨k, a, rfl, hh, ha⟩ | ⟨k, w, a, rfl, hh, _, ha⟩ | ⟨k, a, b, rfl, hh, ha, hb⟩ | ⟨m, w, s, rfl, _, hsp⟩
  · show 1 ≤ k ∧ k ≤ 30 ∧ k ≠ 7 ∧ k ≠ 8 ∧ k ≠ 10 ∧ k ≠ 11; omega
  · show 1 ≤ k ∧ k ≤ 30 ∧ k ≠ 7 ∧ k ≠ 8 ∧ k ≠ 10 ∧ k ≠ 11; omega
  · show 1 ≤ k ∧ k ≤ 30 ∧ k ≠ 7 ∧ k ≠ 8 ∧ k ≠ 10 ∧ k ≠ 11; omega
  · show 1 ≤ k ∧ k ≤ 30 ∧ k ≠ 7 ∧ k ≠ 8 ∧ k ≠ 10 ∧ k ≠ 11; omega
  · show 1 ≤ k ∧ k ≤ 30 ∧ k ≠ 7 ∧ k ≠ 8 ∧ k ≠ 10 ∧ k ≠ 11; omega
  · show 1 ≤ 30 ∧ 30 ≤ 30 ∧ 30 ≠ 7 ∧ 30 ≠ 8 ∧ 30 ≠ 10 ∧ 30 ≠ 11; omega
theorem rx_root {P : Pgm} {S : Tks} {num : List Int32 → Nat} {c n l q : Nat} {E : EnvV} {g : pH} {e : Tr} (he : OkE S (q + 1) e) (hx : RXn P num c E g e n l) : ∃ v w a b, e = nd (kd e) v w a b ∧ n + sz e - 1 = n + sz a + sz b ∧ rd g 144 (n + sz e - 1) = (P.rnK num c E (kd e) v w a ((P.te c E a).getD [] ++ (P.te c E b).getD [])).1 ∧ rd g 147 (n + sz e - 1) = (P.rnK num c E (kd e) v w a ((P.te c E a).getD [] ++ (P.te c E b).getD [])).2 := by
  have hk := kd_ok he
  have key : ∀ k v w a b, e = nd k v w a b → kd e = k → ∃ v w a b, e = nd (kd e) v w a b ∧ n + sz e - 1 = n + sz a + sz b ∧ rd g 144 (n + sz e - 1) = (P.rnK num c E (kd e) v w a ((P.te c E a).getD [] ++ (P.te c E b).getD [])).1 ∧ rd g 147 (n + sz e - 1) = (P.rnK num c E (kd e) v w a ((P.te c E a).getD [] ++ (P.te c E b).getD [])).2 := fun k v w a b h1 h2 => by
    rw [h2]
    rw [h2] at hk
    subst h1
    rw [RXn_nd] at hx
    have hr := (hx.2.2.resolve_left (by omega)).resolve_left (by omega)
    have e1 : n + sz (nd k v w a b) - 1 = n + sz a + sz b := by rw [sz_nd, if_neg (by omega)]; omega
    exact ⟨v, w, a, b, rfl, e1, by rw [e1]; exact hr.1, by rw [e1]; exact hr.2.2.2.1⟩
  rcases he with ⟨k, v, h1, hh⟩ | ⟨k, w, h1, hh, _⟩ | ⟨k, a, h1, hh, ha⟩ | ⟨k, w, a, h1, hh, _, ha⟩ | ⟨k, a, b, h1, hh, ha, hb⟩ | ⟨m, w, s, h1, _, hsp⟩
  · exact key _ _ _ _ _ h1 (by rw [h1]; rfl)
  · exact key _ _ _ _ _ h1 (by rw [h1]; rfl)
  · exact key _ _ _ _ _ h1 (by rw [h1]; rfl)
  · exact key _ _ _ _ _ h1 (by rw [h1]; rfl)
  · exact key _ _ _ _ _ h1 (by rw [h1]; rfl)
  · exact key _ _ _ _ _ h1 (by rw [h1]; rfl)
/-- an expression on top is unfolded until a step is on top -/
theorem unfT {P : Pgm} {S : Tks} {num : List Int32 → Nat} {c N : Nat} {E : EnvV} {g : pH} (hN : 4000 ≤ N) : ∀ (m : Nat) (e : Tr) (n l t : Nat) (h : pH) (T : List It), (nx (P.flX c E e)).length ≤ m → Ox S e → P.te c E e = some [t] → RXn P num c E g e n l → n + sz e ≤ 3200 → l + ls e ≤ 3200 → StV g h → rd h 138 70 = 0 → TdH ((0, Int32.ofNat (n + sz e - 1)) :: T) h → T.length + (nx (P.flX c E e)).length + 3300 < 400000 → ∃ h' us, (∃ it us' ys ws, us = it :: us' ∧ nx (P.flX c E e) = ys ++ ws ∧ StI P S num c E g it ys ∧ TdX P S num c E g us' ws) ∧ TdH (us ++ T) h' ∧ Chg (tdB T.length) h h' ∧ ∃ q, q ≤ m ∧ ∀ d, fX12_settle_0 N (d + q) 138 h = fX12_settle_0 N d 138 h'
  | 0, e, n, l, t, h, T, hm, ho, _, _, _, _, _, _, _, _ => by
    have := flX_ne (P := P) (c := c) (E := E) ho
    exact absurd (List.length_eq_zero_iff.mp (by omega)) this
  | m + 1, e, n, l, t, h, T, hm, ho, hte, hx, h1, h2, st, h70, ht, hT => by
    have hsz := sz_ox ho
    have ho' := ho
    obtain ⟨q, he⟩ := ho
    match q, he with
    | q + 1, he =>
      obtain ⟨v, w, a, b, e1, e2, e3, e4⟩ := rx_root he hx
      have hk := kd_ok he
      by_cases hlf : lfK (kd e)
      · have hab : a = nl ∧ b = nl := by
          have hnd : ∀ {k k' v v' w w' : Nat} {x y x' y' : Tr}, nd k v w x y = nd k' v' w' x' y' → x = x' ∧ y = y' := fun z => by cases z; exact ⟨rfl, rfl⟩
          rcases he with ⟨k, v, rfl, hh⟩ | ⟨k, w, rfl, hh, _⟩ | ⟨k, a', rfl, hh, ha⟩ | ⟨k, w, a', rfl, hh, _, ha⟩ | ⟨k, a', b', rfl, hh, ha, hb⟩ | ⟨m, w, s, rfl, _, hsp⟩
          · exact ⟨(hnd e1).1.symm, (hnd e1).2.symm⟩
          · exact ⟨(hnd e1).1.symm, (hnd e1).2.symm⟩
          · exact absurd hlf (by show ¬ lfK k; unfold lfK; omega)
          · exact absurd hlf (by show ¬ lfK k; unfold lfK; omega)
          · exact absurd hlf (by show ¬ lfK k; unfold lfK; omega)
          · exact absurd hlf (by show ¬ lfK 30; unfold lfK; omega)
        obtain ⟨rfl, rfl⟩ := hab
        have efl : nx (P.flX c E e) = [.inl (kd e, v, w, false, [])] := by
          have hk2 := hlf
          unfold lfK at hk2
          rw [e1]
          have hkk : kd (nd (kd e) v w nl nl) = kd e := rfl
          rw [hkk, Pgm.flX_nd, if_neg (by omega), if_neg (by omega)]
          show (if kd e = 50 ∨ kd e = 51 then nx [] else _ :: nx []) = _
          rw [if_neg (by omega)]
          rfl
        refine ⟨h, [(0, Int32.ofNat (n + sz e - 1))], ⟨(0, Int32.ofNat (n + sz e - 1)), [], [.inl (kd e, v, w, false, [])], [], rfl, by rw [efl]; rfl, Or.inl ⟨rfl, kd e, v, w, n + sz e - 1, hlf, rfl, by omega, e3, e4, rfl⟩, rfl⟩, ht, Chg.refl _ _, 0, Nat.zero_le _, fun d => rfl⟩
      · have hns : fX12_isStep N 138 h = some (0, h) := by
          rw [r_isStep st ht (by omega) (by show 0 ≤ 8; omega)]
          dsimp only
          rw [if_neg (by omega), if_pos rfl, r_leaf st (by omega), Option.bind_some]
          dsimp only
          rw [e3, if_neg (rnK_nl hk.1 hk.2.1 hlf hk.2.2), if_pos rfl]
        have st1 : StV g (wr h 138 103 (Int32.ofNat T.length)) := st.chg (Chg.wr (A := fun a k => a = 138 ∧ k = 103) h 138 103 _ ⟨rfl, rfl⟩) (fun a k z => by omega)
        obtain ⟨h1', us, u1, u2, u3, u4, u5⟩ := unf1 (N := N) hN st1 (ht.pop st.1).1 (by omega) he hlf hte hx h1 h2
        have hgo : ∀ d, fX12_settle_0 N (d + 1) 138 h = fX12_settle_0 N d 138 h1' := fun d => by
          rw [set_go st h70 ht (by omega) hns]
          dsimp only
          rw [if_pos (show Int32.ofNat 0 = 0 from rfl)]
          rw [u1, Option.bind_some]
        have c0 : Chg (tdB T.length) h h1' := (Chg.wr h 138 103 (Int32.ofNat T.length) (by unfold tdB; omega)).trans u4
        have st2 : StV g h1' := st.chg c0 (fun a k z => by unfold tdB; omega)
        have h70' : rd h1' 138 70 = 0 := (c0.2.2.1 _ _ (by unfold tdB; omega)).trans h70
        have hle : us.length ≤ cl e := by
          have l1 := u3.len
          have l2 := nx_len (P.flX c E e)
          have l3 := xw_len (P.flX c E e)
          rw [xw_fl] at l3
          omega
        match us, u2, u3, u5, hle with
        | [], u2, u3, u5, hle =>
          have u3 : nx (P.flX c E e) = [] := u3
          exact absurd u3 (flX_ne ho')
        | it :: us', u2, u3, u5, hle =>
          obtain ⟨ys, ws, x1, x2, x3⟩ := u3
          by_cases h0 : it.1 = 0
          · have hus := u5 it us' rfl h0
            rcases x2 with ⟨_, e', n', l', t', z1, z2, z3, z4, z5, z6, rfl⟩ | ⟨z, _⟩ | ⟨z, _⟩
            · have eit : it = (0, Int32.ofNat (n' + sz e' - 1)) := by
                obtain ⟨i1, i2⟩ := it
                have h0 : i1 = 0 := h0
                have z4 : i2 = Int32.ofNat (n' + sz e' - 1) := z4
                rw [h0, z4]
              rw [eit] at u2
              have hws : 1 ≤ ws.length := by
                have := x3.len
                rcases us' with _ | ⟨y, ys'⟩
                · exact absurd rfl hus
                · rw [List.length_cons] at this
                  omega
              have hlen := congrArg List.length x1
              rw [List.length_append] at hlen
              have hcl : us'.length + (nx (P.flX c E e')).length ≤ cl e := by
                have l0 := x3.len
                have l2 := nx_len (P.flX c E e)
                have l3 := xw_len (P.flX c E e)
                rw [xw_fl] at l3
                omega
              have u2' : TdH ((0, Int32.ofNat (n' + sz e' - 1)) :: (us' ++ T)) h1' := u2
              obtain ⟨h2', us2, ⟨it2, us3, ys2, ws2, w1, w2, w3, w4⟩, w5, w6, q2, w7, w8⟩ := unfT hN m e' n' l' t' h1' (us' ++ T) (by omega) z1 z2 z3 z5 z6 st2 h70' u2' (by rw [List.length_append]; have := x3.len; omega)
              refine ⟨h2', us2 ++ us', ⟨it2, us3 ++ us', ys2, ws2 ++ ws, by rw [w1]; rfl, by rw [x1, w2, List.append_assoc], w3, w4.app x3⟩, by rw [List.append_assoc]; exact w5, c0.trans (w6.mono (fun a k z => by unfold tdB at z ⊢; rw [List.length_append] at z; omega)), q2 + 1, by omega, fun d => ?_⟩
              rw [← Nat.add_assoc, hgo, w8]
            · omega
            · omega
          · refine ⟨h1', it :: us', ⟨it, us', ys, ws, rfl, x1, Or.inr ⟨?_, x2⟩, x3⟩, u2, c0, 1, by omega, hgo⟩
            rcases x2 with ⟨z, _⟩ | ⟨z, _⟩ | ⟨z, _⟩
            · exact absurd z h0
            · exact Or.inl z
            · exact Or.inr z
