/-! ===== THE REFERENCE unfolds: all kinds ===== -/
theorem rnK_v {P : Pgm} {num : List Int32 → Nat} {c : Nat} {E : EnvV} {k v w : Nat} {a : Tr} {l : List Nat} (h6 : k ≠ 6) (h9 : k ≠ 9) : (P.rnK num c E k v w a l).1 = nK k a := by
  unfold Pgm.rnK
  rw [if_neg h6, if_neg h9]
  split <;> rfl
theorem rnK_9 {P : Pgm} {num : List Int32 → Nat} {c : Nat} {E : EnvV} {v w : Nat} {a : Tr} {l : List Nat} : (P.rnK num c E 9 v w a l).1 = 18 ∨ (P.rnK num c E 9 v w a l).1 = 6 := by
  unfold Pgm.rnK
  rw [if_neg (by omega), if_pos rfl]
  split
  · exact Or.inl rfl
  · exact Or.inr rfl
theorem sz_ox {S : Tks} {e : Tr} (h : Ox S e) : 1 ≤ sz e := by
  obtain ⟨k, v, w, a, b, rfl, h1, h2⟩ := h.nd
  rw [sz_nd, if_neg (by omega)]
  omega
/-- what is on top after an unfolding -/
def Hd0 (us : List It) : Prop := ∀ it us', us = it :: us' → it.1 = 0 → us' ≠ []
theorem unf1 {P : Pgm} {S : Tks} {num : List Int32 → Nat} {c N n l q t : Nat} {E : EnvV} {g h : pH} {T : List It} {e : Tr} (hN : 4000 ≤ N) (st : StV g h) (ht : TdH T h) (hT : T.length + 3300 < 400000) (he : OkE S (q + 1) e) (hk : ¬ lfK (kd e)) (hte : P.te c E e = some [t]) (hx : RXn P num c E g e n l) (h1 : n + sz e ≤ 3200) (h2 : l + ls e ≤ 3200) : ∃ h' us, fX12_unfold N 138 (Int32.ofNat (n + sz e - 1)) h = some h' ∧ TdH (us ++ T) h' ∧ TdX P S num c E g us (nx (P.flX c E e)) ∧ Chg (tdB T.length) h h' ∧ Hd0 us := by
  have sg := st.1
  have un : ∀ k v w a, OkE S q a → (k = 9 ∨ (14 ≤ k ∧ k ≤ 18)) → P.te c E (nd k v w a nl) = some [t] → RXn P num c E g (nd k v w a nl) n l → n + sz (nd k v w a nl) ≤ 3200 → l + ls (nd k v w a nl) ≤ 3200 → ∃ h' us, fX12_unfold N 138 (Int32.ofNat (n + sz (nd k v w a nl) - 1)) h = some h' ∧ TdH (us ++ T) h' ∧ TdX P S num c E g us (nx (P.flX c E (nd k v w a nl))) ∧ Chg (tdB T.length) h h' ∧ Hd0 us := fun k v w a ha hk hte hx h1 h2 => by
    have hoa : Ox S a := ⟨q, ha⟩
    have hsa := sz_ox hoa
    have hte : ((P.te c E a).bind fun x => (some []).bind fun y => P.opT c E k w (x ++ y)) = some [t] := hte
    obtain ⟨xa, hxa, _⟩ := Option.bind_eq_some_iff.mp hte
    obtain ⟨u, rfl, _⟩ := Ox.te_one (S := S) hoa hxa
    rw [RXn_nd] at hx
    rw [sz_nd, if_neg (by omega), sz_nl] at h1 ⊢
    rw [ls_nd, if_neg (by omega), ls_nl] at h2
    have hr := (hx.2.2.resolve_left (by omega)).resolve_left (by omega)
    rw [sz_nl, Nat.add_zero] at hr
    obtain ⟨r1, r2, r3, r4, r5⟩ := hr
    have e1 : n + (sz a + 0 + 1) - 1 = n + sz a := by omega
    rw [e1]
    have eK : rd g 144 (n + sz a) = 18 ∨ rd g 144 (n + sz a) = 6 ∨ rd g 144 (n + sz a) = 10 ∨ rd g 144 (n + sz a) = 11 ∨ rd g 144 (n + sz a) = 12 ∨ rd g 144 (n + sz a) = 13 ∨ rd g 144 (n + sz a) = 14 := by
      rw [r1]
      by_cases h9 : k = 9
      · subst h9
        rcases rnK_9 (P := P) (num := num) (c := c) (E := E) (v := v) (w := w) (a := a) (l := (P.te c E a).getD [] ++ (P.te c E nl).getD []) with z | z <;> rw [z] <;> simp
      · rw [rnK_v (by omega) h9]
        have : k = 14 ∨ k = 15 ∨ k = 16 ∨ k = 17 ∨ k = 18 := by omega
        rcases this with rfl | rfl | rfl | rfl | rfl
        · exact Or.inr (Or.inr (Or.inr (Or.inr (Or.inl rfl))))
        · exact Or.inr (Or.inr (Or.inl rfl))
        · exact Or.inr (Or.inr (Or.inr (Or.inl rfl)))
        · exact Or.inr (Or.inr (Or.inr (Or.inr (Or.inr (Or.inl rfl)))))
        · exact Or.inr (Or.inr (Or.inr (Or.inr (Or.inr (Or.inr rfl)))))
    have e145 : rd g 145 (n + sz a) = Int32.ofNat (n + sz a - 1) := by
      rw [r2]
      unfold n1
      rw [if_neg (by omega), if_neg (by omega)]
    obtain ⟨ha1, f1, f2, f3⟩ := r_todo (N := N) (k := 1) (y := Int32.ofNat (n + sz a)) sg ht (by omega)
    have st1 : StV g ha1 := st.chg f3 (fun a k z => by unfold tdA; omega)
    obtain ⟨hb1, g1, g2, g3⟩ := r_todo (N := N) (k := 0) (y := Int32.ofNat (n + sz a - 1)) st1.1 f2 (by rw [List.length_cons]; omega)
    have f1 : fX12_todo N 138 1 (Int32.ofNat (n + sz a)) h = some ha1 := f1
    have g1 : fX12_todo N 138 0 (Int32.ofNat (n + sz a - 1)) ha1 = some hb1 := g1
    refine ⟨hb1, [(0, Int32.ofNat (n + sz a - 1)), (1, Int32.ofNat (n + sz a))], ?_, g2, ?_, (f3.mono (fun a k z => z.b (Nat.le_refl _))).trans (g3.mono (fun a k z => z.b (by rw [List.length_cons]; omega))), ?_⟩
    · have key : ∀ K : Int32, rd g 144 (n + sz a) = K → K ≠ 16 → K ≠ 17 → K ≠ 8 → K ≠ 9 → K ≠ 15 → K ≠ 7 → fX12_unfold N 138 (Int32.ofNat (n + sz a)) h = some hb1 := fun K hK n1 n2 n3 n4 n5 n6 => by
        unfold fX12_unfold
        rw [if_pos (o_138 sg), R_138_16 sg, Option.bind_some, L_144 sg (by omega), Option.bind_some, st.2.1 144 _ (by omega) (by omega), hK, if_neg n1, if_neg n2, f1, Option.bind_some, if_neg n3, if_neg n4]
        unfold fX12_unfold_92 fX12_unfold_115
        rw [if_neg n5, if_neg n6, if_neg n4, R_138_17 st1.1, Option.bind_some, L_145 st1.1 (by omega), Option.bind_some, st1.2.1 145 _ (by omega) (by omega), e145, g1, Option.bind_some]
      rcases eK with z | z | z | z | z | z | z
      · exact key 18 z (by decide) (by decide) (by decide) (by decide) (by decide) (by decide)
      · exact key 6 z (by decide) (by decide) (by decide) (by decide) (by decide) (by decide)
      · exact key 10 z (by decide) (by decide) (by decide) (by decide) (by decide) (by decide)
      · exact key 11 z (by decide) (by decide) (by decide) (by decide) (by decide) (by decide)
      · exact key 12 z (by decide) (by decide) (by decide) (by decide) (by decide) (by decide)
      · exact key 13 z (by decide) (by decide) (by decide) (by decide) (by decide) (by decide)
      · exact key 14 z (by decide) (by decide) (by decide) (by decide) (by decide) (by decide)
    · rw [Pgm.flX_nd, if_neg (by omega), if_neg (by omega), nx_app, nx_app]
      refine (TdX.one (It0 hoa hxa hx.1 (by omega) (by omega))).app (b := [(1, Int32.ofNat (n + sz a))]) ?_
      have e2 : nx (P.flX c E nl) ++ nx [.inl (k, v, w, ownT a, (P.te c E a).getD [] ++ (P.te c E nl).getD [])] = [.inl (k, v, w, ownT a, (P.te c E a).getD [] ++ (P.te c E nl).getD [])] := by
        show [] ++ (if k = 50 ∨ k = 51 then nx [] else _ :: nx []) = _
        rw [if_neg (by omega)]
        rfl
      rw [e2]
      exact TdX.one (Or.inr (Or.inl ⟨rfl, k, v, w, ownT a, _, n + sz a, a, rfl, by omega, r1, r4, rfl, fun z => by omega, by omega, rfl⟩))
    · intro it us' hus hi
      obtain ⟨_, rfl⟩ := List.cons.inj hus
      exact List.cons_ne_nil _ _
  rcases he with ⟨k, v, rfl, hh⟩ | ⟨k, w, rfl, hh, _⟩ | ⟨k, a, rfl, hh, ha⟩ | ⟨k, w, a, rfl, hh, _, ha⟩ | ⟨k, a, b, rfl, hh, ha, hb⟩ | ⟨m, w, s, rfl, _, hsp⟩
  · exact absurd (show lfK k by unfold lfK; omega) hk
  · exact absurd (show lfK k by unfold lfK; omega) hk
  · exact un k 0 0 a ha (by omega) hte hx h1 h2
  · exact un k 0 w a ha (by omega) hte hx h1 h2
  · unfold eBin at hte hx h1 h2 ⊢
    have hoa : Ox S a := ⟨q, ha⟩
    have hob : Ox S b := ⟨q, hb⟩
    have hsa := sz_ox hoa
    have hsb := sz_ox hob
    have hte : ((P.te c E a).bind fun x => (P.te c E b).bind fun y => P.opT c E k 0 (x ++ y)) = some [t] := hte
    obtain ⟨xa, hxa, hte⟩ := Option.bind_eq_some_iff.mp hte
    obtain ⟨xb, hxb, hte⟩ := Option.bind_eq_some_iff.mp hte
    obtain ⟨u, rfl, _⟩ := Ox.te_one (S := S) hoa hxa
    obtain ⟨u', rfl, _⟩ := Ox.te_one (S := S) hob hxb
    rw [RXn_nd] at hx
    rw [sz_nd, if_neg (by omega)] at h1 ⊢
    rw [ls_nd, if_neg (by omega)] at h2
    have hr := (hx.2.2.resolve_left (by omega)).resolve_left (by omega)
    obtain ⟨r1, r2, r3, r4, r5⟩ := hr
    have e1 : n + (sz a + sz b + 1) - 1 = n + sz a + sz b := by omega
    rw [e1]
    have e145 : rd g 145 (n + sz a + sz b) = Int32.ofNat (n + sz a - 1) := by
      rw [r2]
      unfold n1
      rw [if_neg (by omega), if_neg (by omega)]
    have e146 : rd g 146 (n + sz a + sz b) = Int32.ofNat (n + sz a + sz b - 1) := by
      rw [r3]
      unfold n2
      rw [if_neg (by omega), if_neg (by omega)]
    by_cases h28 : k = 28 ∨ k = 29
    · obtain ⟨ha1, f1, f2, f3⟩ := r_todo (N := N) (k := 2) (y := Int32.ofNat (n + sz a + sz b)) sg ht (by omega)
      have st1 : StV g ha1 := st.chg f3 (fun a k z => by unfold tdA; omega)
      obtain ⟨hb1, g1, g2, g3⟩ := r_todo (N := N) (k := 0) (y := Int32.ofNat (n + sz a - 1)) st1.1 f2 (by rw [List.length_cons]; omega)
      have f1 : fX12_todo N 138 2 (Int32.ofNat (n + sz a + sz b)) h = some ha1 := f1
      have g1 : fX12_todo N 138 0 (Int32.ofNat (n + sz a - 1)) ha1 = some hb1 := g1
      have eK : rd g 144 (n + sz a + sz b) = if k = 28 then 16 else 17 := by
        rw [r1, rnK_v (by omega) (by omega)]
        rcases h28 with rfl | rfl <;> rfl
      have e19 : fX12_unfold_19 N 138 (Int32.ofNat (n + sz a + sz b)) h = some hb1 := by
        unfold fX12_unfold_19
        rw [f1, Option.bind_some, R_138_17 st1.1, Option.bind_some, L_145 st1.1 (by omega), Option.bind_some, st1.2.1 145 _ (by omega) (by omega), e145, g1, Option.bind_some]
      have hte1 : P.te c E b = some [1] := by
        rw [hxb]
        have hte : P.opT c E k 0 ([u] ++ [u']) = some [t] := hte
        unfold Pgm.opT at hte
        rw [if_neg (by omega), if_neg (by omega), if_neg (by omega), if_neg (by omega), if_neg (by omega), if_neg (by omega), if_neg (by omega), if_neg (by omega), if_neg (by omega), if_neg (by omega), if_neg (by omega), if_neg (by omega), if_neg (by omega), if_neg (by omega), if_neg (by omega), if_pos h28] at hte
        have := (eqT_one hte).2
        have h3 : [u, u'] = [1, 1] := this
        rw [(List.cons.inj (List.cons.inj h3).2).1]
      refine ⟨hb1, [(0, Int32.ofNat (n + sz a - 1)), (2, Int32.ofNat (n + sz a + sz b))], ?_, g2, ?_, (f3.mono (fun a k z => z.b (Nat.le_refl _))).trans (g3.mono (fun a k z => z.b (by rw [List.length_cons]; omega))), ?_⟩
      · unfold fX12_unfold
        rw [if_pos (o_138 sg), R_138_16 sg, Option.bind_some, L_144 sg (by omega), Option.bind_some, st.2.1 144 _ (by omega) (by omega), eK]
        rcases h28 with rfl | rfl
        · rw [if_pos rfl, if_pos rfl]; exact e19
        · rw [if_neg (show ¬ 29 = 28 by omega), if_neg (by decide), if_pos rfl]; exact e19
      · rw [Pgm.flX_nd, if_pos h28, nx_app]
        refine (TdX.one (It0 hoa hxa hx.1 (by omega) (by omega))).app (b := [(2, Int32.ofNat (n + sz a + sz b))]) ?_
        exact TdX.one (Or.inr (Or.inr ⟨rfl, k, b, n + sz a, l + ls a, n + sz a + sz b, h28, rfl, by omega, eK, hob, hte1, hx.2.1, e146, by omega, by omega, rfl⟩))
      · intro it us' hus hi
        obtain ⟨_, rfl⟩ := List.cons.inj hus
        exact List.cons_ne_nil _ _
    · obtain ⟨ha1, f1, f2, f3⟩ := r_todo (N := N) (k := 1) (y := Int32.ofNat (n + sz a + sz b)) sg ht (by omega)
      have st1 : StV g ha1 := st.chg f3 (fun a k z => by unfold tdA; omega)
      obtain ⟨hb1, g1, g2, g3⟩ := r_todo (N := N) (k := 0) (y := Int32.ofNat (n + sz a + sz b - 1)) st1.1 f2 (by rw [List.length_cons]; omega)
      have st2 : StV g hb1 := st1.chg g3 (fun a k z => by unfold tdA; omega)
      obtain ⟨hc1, j1, j2, j3⟩ := r_todo (N := N) (k := 0) (y := Int32.ofNat (n + sz a - 1)) st2.1 g2 (by rw [List.length_cons, List.length_cons]; omega)
      have f1 : fX12_todo N 138 1 (Int32.ofNat (n + sz a + sz b)) h = some ha1 := f1
      have g1 : fX12_todo N 138 0 (Int32.ofNat (n + sz a + sz b - 1)) ha1 = some hb1 := g1
      have j1 : fX12_todo N 138 0 (Int32.ofNat (n + sz a - 1)) hb1 = some hc1 := j1
      have eK : rd g 144 (n + sz a + sz b) = 7 ∨ rd g 144 (n + sz a + sz b) = 15 := by
        rw [r1, rnK_v (by omega) (by omega)]
        have : k = 12 ∨ k = 19 ∨ k = 20 ∨ k = 21 ∨ k = 22 ∨ k = 23 ∨ k = 24 ∨ k = 25 ∨ k = 26 ∨ k = 27 := by omega
        rcases this with rfl | rfl | rfl | rfl | rfl | rfl | rfl | rfl | rfl | rfl
        · exact Or.inl rfl
        all_goals exact Or.inr rfl
      refine ⟨hc1, [(0, Int32.ofNat (n + sz a - 1)), (0, Int32.ofNat (n + sz a + sz b - 1)), (1, Int32.ofNat (n + sz a + sz b))], ?_, j2, ?_, (f3.mono (fun a k z => z.b (Nat.le_refl _))).trans ((g3.mono (fun a k z => z.b (by rw [List.length_cons]; omega))).trans (j3.mono (fun a k z => z.b (by rw [List.length_cons, List.length_cons]; omega)))), ?_⟩
      · have e92 : ∀ K : Int32, K = 7 ∨ K = 15 → fX12_unfold_92 N 138 (Int32.ofNat (n + sz a + sz b)) K ha1 = some hc1 := fun K hK => by
          have e104 : fX12_unfold_104 N 138 (Int32.ofNat (n + sz a + sz b)) K ha1 = some hc1 := by
            unfold fX12_unfold_104 fX12_unfold_115
            rw [R_138_18 st1.1, Option.bind_some, L_146 st1.1 (by omega), Option.bind_some, st1.2.1 146 _ (by omega) (by omega), e146, g1, Option.bind_some, if_neg (by rcases hK with rfl | rfl <;> decide), R_138_17 st2.1, Option.bind_some, L_145 st2.1 (by omega), Option.bind_some, st2.2.1 145 _ (by omega) (by omega), e145, j1, Option.bind_some]
          unfold fX12_unfold_92
          rcases hK with rfl | rfl
          · rw [if_neg (by decide), if_pos rfl]; exact e104
          · rw [if_pos rfl]; exact e104
        unfold fX12_unfold
        rw [if_pos (o_138 sg), R_138_16 sg, Option.bind_some, L_144 sg (by omega), Option.bind_some, st.2.1 144 _ (by omega) (by omega)]
        rcases eK with z | z
        · rw [z, if_neg (by decide), if_neg (by decide), f1, Option.bind_some, if_neg (by decide), if_neg (by decide)]
          exact e92 7 (Or.inl rfl)
        · rw [z, if_neg (by decide), if_neg (by decide), f1, Option.bind_some, if_neg (by decide), if_neg (by decide)]
          exact e92 15 (Or.inr rfl)
      · rw [Pgm.flX_nd, if_neg h28, if_neg (by omega), nx_app, nx_app]
        refine (TdX.one (It0 hoa hxa hx.1 (by omega) (by omega))).app (b := [(0, Int32.ofNat (n + sz a + sz b - 1)), (1, Int32.ofNat (n + sz a + sz b))]) ?_
        refine (TdX.one (It0 hob hxb hx.2.1 (by omega) (by omega))).app (b := [(1, Int32.ofNat (n + sz a + sz b))]) ?_
        have e2 : nx [.inl (k, 0, 0, ownT a, (P.te c E a).getD [] ++ (P.te c E b).getD [])] = [.inl (k, 0, 0, ownT a, (P.te c E a).getD [] ++ (P.te c E b).getD [])] := by
          show (if k = 50 ∨ k = 51 then nx [] else _ :: nx []) = _
          rw [if_neg (by omega)]
          rfl
        rw [e2]
        exact TdX.one (Or.inr (Or.inl ⟨rfl, k, 0, 0, ownT a, _, n + sz a + sz b, a, rfl, by omega, r1, r4, rfl, fun z => by omega, by omega, rfl⟩))
      · intro it us' hus hi
        obtain ⟨_, rfl⟩ := List.cons.inj hus
        exact List.cons_ne_nil _ _
  · unfold eCall at hte hx h1 h2 ⊢
    have hsp' : OkSp (Ox S) m s := hsp.mono (fun x z => ⟨q, z⟩)
    have hte : ((P.te c E s).bind fun x => (some []).bind fun y => P.opT c E 30 w (x ++ y)) = some [t] := hte
    obtain ⟨xs, hxs, hte⟩ := Option.bind_eq_some_iff.mp hte
    rw [RXn_nd] at hx
    rw [sz_nd, if_neg (by omega), sz_nl] at h1 ⊢
    rw [ls_nd, if_pos rfl, ls_nl] at h2
    have hr := (hx.2.2.resolve_left (by omega)).resolve_left (by omega)
    rw [sz_nl, Nat.add_zero] at hr
    obtain ⟨r1, r2, r3, r4, r5⟩ := hr
    obtain ⟨r6, r7, r8⟩ := r5 rfl
    have e1 : n + (sz s + 0 + 1) - 1 = n + sz s := by omega
    rw [e1]
    have e145 : rd g 145 (n + sz s) = hdR s n := by
      rw [r2]
      unfold n1
      rw [if_pos rfl]
    have e146 : rd g 146 (n + sz s) = Int32.ofNat (l + ls s) := by
      rw [r3]
      unfold n2
      rw [if_pos rfl]
    have eK : rd g 144 (n + sz s) = if ownT s = true then 9 else 8 := by
      rw [r1, rnK_v (by omega) (by omega)]
      rfl
    have htd := spine_td m s xs n l hsp' hxs hx.1 (by omega) (by omega)
    obtain ⟨ha1, f1, f2, f3⟩ := r_todo (N := N) (k := 1) (y := Int32.ofNat (n + sz s)) sg ht (by omega)
    have f1 : fX12_todo N 138 1 (Int32.ofNat (n + sz s)) h = some ha1 := f1
    have st1 : StV g ha1 := st.chg f3 (fun a k z => by unfold tdA; omega)
    have hal : (argR s n).length ≤ 3200 := by omega
    obtain ⟨hb1, g1, g2, g3⟩ := unf_64 (N := N) (j := n + sz s) (p := l + ls s) (v2 := if ownT s = true then 9 else 8) N (argR s n) ha1 st1 f2 (by rw [List.length_cons]; omega) r8 (by omega) (by omega) e146 (by omega)
    have st2 : StV g hb1 := st1.chg g3 (fun a k z => by unfold tdB; omega)
    have e182 : rd g 182 (n + sz s) = Int32.ofNat (argR s n).length := by rw [r6, r7]
    have e55 : fX12_unfold_55 N 138 (Int32.ofNat (n + sz s)) (if ownT s = true then 9 else 8) ha1 = fX12_unfold_92 N 138 (Int32.ofNat (n + sz s)) (if ownT s = true then 9 else 8) hb1 := by
      unfold fX12_unfold_55
      rw [R_138_68 st1.1, Option.bind_some, L_182 st1.1 (by omega), Option.bind_some, st1.2.1 182 _ (by omega) (by omega), e182]
      exact g1
    have cc : Chg (tdB T.length) h hb1 := (f3.mono (fun a k z => z.b (Nat.le_refl _))).trans (g3.mono (fun a k z => by unfold tdB at z ⊢; rw [List.length_cons] at z; omega))
    have efl : ∀ us, TdX P S num c E g us (nx (P.flX c E s)) → TdX P S num c E g (us ++ [(1, Int32.ofNat (n + sz s))]) (nx (P.flX c E (nd 30 m w s nl))) := fun us hus => by
      rw [Pgm.flX_nd, if_neg (by omega), if_neg (by omega), nx_app]
      refine hus.app ?_
      exact TdX.one (Or.inr (Or.inl ⟨rfl, 30, m, w, ownT s, _, n + sz s, s, rfl, by omega, r1, r4, rfl, fun _ => r6, by omega, rfl⟩))
    have hunf : fX12_unfold N 138 (Int32.ofNat (n + sz s)) h = fX12_unfold_92 N 138 (Int32.ofNat (n + sz s)) (if ownT s = true then 9 else 8) hb1 := by
      unfold fX12_unfold
      rw [if_pos (o_138 sg), R_138_16 sg, Option.bind_some, L_144 sg (by omega), Option.bind_some, st.2.1 144 _ (by omega) (by omega), eK]
      by_cases ho : ownT s = true
      · rw [if_pos ho] at e55 ⊢
        rw [if_neg (by decide), if_neg (by decide), f1, Option.bind_some, if_neg (by decide), if_pos rfl]
        exact e55
      · rw [if_neg ho] at e55 ⊢
        rw [if_neg (by decide), if_neg (by decide), f1, Option.bind_some, if_pos rfl]
        exact e55
    by_cases ho : ownT s = true
    · rw [if_pos ho] at htd hunf
      refine ⟨hb1, (argR s n).map (fun j => ((0, Int32.ofNat j) : It)) ++ [(1, Int32.ofNat (n + sz s))], ?_, ?_, efl _ htd, cc, ?_⟩
      · rw [hunf]
        unfold fX12_unfold_92 fX12_unfold_115
        rw [if_neg (by decide), if_neg (by decide), if_pos rfl]
      · rw [List.append_assoc]; exact g2
      · intro it us' hus hi
        rcases hq : argR s n with _ | ⟨j, js⟩
        · rw [hq] at hus
          obtain ⟨rfl, _⟩ := List.cons.inj hus
          cases hi
        · rw [hq] at hus
          obtain ⟨_, rfl⟩ := List.cons.inj hus
          simp
    · rw [if_neg ho] at htd hunf
      have hof : ownT s = false := by cases hq : ownT s with | true => exact absurd hq ho | false => rfl
      obtain ⟨hc1, j1, j2, j3⟩ := r_todo (N := N) (k := 0) (y := hdR s n) st2.1 g2 (by rw [List.length_append, List.length_map, List.length_cons]; omega)
      have j1 : fX12_todo N 138 0 (hdR s n) hb1 = some hc1 := j1
      refine ⟨hc1, ([(0, hdR s n)] ++ (argR s n).map (fun j => ((0, Int32.ofNat j) : It))) ++ [(1, Int32.ofNat (n + sz s))], ?_, ?_, efl _ htd, cc.trans (j3.mono (fun a k z => z.b (by rw [List.length_append, List.length_cons]; omega))), ?_⟩
      · rw [hunf]
        unfold fX12_unfold_92 fX12_unfold_115
        rw [if_neg (by decide), if_neg (by decide), if_neg (by decide), R_138_17 st2.1, Option.bind_some, L_145 st2.1 (by omega), Option.bind_some, st2.2.1 145 _ (by omega) (by omega), e145, j1, Option.bind_some]
      · rw [List.append_assoc, List.append_assoc]; exact j2
      · intro it us' hus hi
        obtain ⟨_, rfl⟩ := List.cons.inj hus
        simp
