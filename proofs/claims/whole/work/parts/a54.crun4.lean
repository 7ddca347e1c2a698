/-! ===== THE CLASS' TYPER: all expressions ===== -/
theorem RunX.spine {S : Tks} {P : Pgm} {D : List Int32 → Prop} {num : List Int32 → Nat} {C : Cx} {c M N en : Nat} {E : EnvV} {p o v1 v2 : Int32} {k2 : Nat → Int32 → pH → Option (Int32 × pH)} {k23 : Nat → Int32 → Int32 → pH → Option (Int32 × pH)} (hN : 1100 ≤ N) (h5 : P.P5) (hc : c < P.n) (hen : en < 3100) (hC : ∀ w, S.K w = 22 → D (P.1 w) ∧ C.2.1 w = Int32.ofNat (num (P.1 w))) {Q : Tr → Prop} (hQ : ∀ e, Q e → RunX P D num C c E M N p o v1 v2 k2 k23 en e ∧ (∀ x, P.te c E e = some x → x.length = 1) ∧ 1 ≤ cl e) : ∀ (m : Nat) (s : Tr), OkSp Q m s → RunX P D num C c E M N p o v1 v2 k2 k23 en s ∧ (∀ x, P.te c E s = some x → x.length = m + 1) ∧ m ≤ cl s
  | 0, s, hs => by
    rcases hs with rfl | hs
    · refine ⟨RunX.fork (S := S) (k := 50) (v := 0) (w := 0) hN h5 hc hen hC (by omega) (by omega) (by omega) (fun x y hx hy => ?_) RunX.nl RunX.nl, fun x hx => ?_, Nat.zero_le _⟩
      · rw [← Option.some.inj hx, ← Option.some.inj hy]; rfl
      · rw [← Option.some.inj hx]; rfl
    · obtain ⟨h1, h2, h3⟩ := hQ s hs
      exact ⟨h1, h2, Nat.zero_le _⟩
  | m + 1, s, ⟨a, b, hs, ha, hb⟩ => by
    subst hs
    obtain ⟨a1, a2, a3⟩ := RunX.spine hN h5 hc hen hC hQ m a ha
    obtain ⟨b1, b2, b3⟩ := hQ b hb
    refine ⟨RunX.arg a1 b1, fun x hx => ?_, ?_⟩
    · have hx : P.te c E (nd 70 0 0 a b) = some x := hx
      rw [Pgm.te_nd] at hx
      obtain ⟨y, y1, hx⟩ := Option.bind_eq_some_iff.mp hx
      obtain ⟨z, z1, hx⟩ := Option.bind_eq_some_iff.mp hx
      have he : some (y ++ z) = some x := hx
      rw [← Option.some.inj he, List.length_append, a2 y y1, b2 z z1]
    · show m + 1 ≤ cl a + cl b + 0
      omega
theorem RunX.all {S : Tks} {P : Pgm} {D : List Int32 → Prop} {num : List Int32 → Nat} {C : Cx} {c M N en : Nat} {E : EnvV} {p o v1 v2 : Int32} {k2 : Nat → Int32 → pH → Option (Int32 × pH)} {k23 : Nat → Int32 → Int32 → pH → Option (Int32 × pH)} (hN : 1100 ≤ N) (h5 : P.P5) (hn : P.n ≤ 400) (hc : c < P.n) (hen : en < 3100) (hC : ∀ w, S.K w = 22 → D (P.1 w) ∧ C.2.1 w = Int32.ofNat (num (P.1 w))) : ∀ (n : Nat) (e : Tr), OkE S n e → RunX P D num C c E M N p o v1 v2 k2 k23 en e ∧ (∀ x, P.te c E e = some x → x.length = 1) ∧ 1 ≤ cl e
  | 0, e, h => h.elim
  | n + 1, e, h => by
    have IH := RunX.all (M := M) (E := E) (p := p) (o := o) (v1 := v1) (v2 := v2) (k2 := k2) (k23 := k23) (en := en) hN h5 hn hc hen hC n
    have one : ∀ x, P.te c E e = some x → x.length = 1 := fun x hx => by
      obtain ⟨t, ht, _⟩ := Ox.te_one (S := S) ⟨n + 1, h⟩ hx
      rw [ht]; rfl
    have len : ∀ {x : List Nat} {a : Nat}, some ([] : List Nat) = some x → a = 0 → x.length = a := fun h1 h2 => by rw [← Option.some.inj h1, h2]; rfl
    rcases h with ⟨k, v, rfl, hk⟩ | ⟨k, w, rfl, hk, hw⟩ | ⟨k, a, rfl, hk, ha⟩ | ⟨k, w, a, rfl, hk, hw, ha⟩ | ⟨k, a, b, rfl, hk, ha, hb⟩ | ⟨m, w, s, rfl, hw, hs⟩
    · refine ⟨RunX.fork (S := S) hN h5 hc hen hC (by omega) (by omega) (by omega) (fun x y hx hy => ?_) RunX.nl RunX.nl, one, ?_⟩
      · rw [← Option.some.inj hx, ← Option.some.inj hy]
        show 0 = arK k v
        unfold arK
        rw [if_neg (by omega), if_neg (by omega), if_neg (by omega)]
      · rw [show cl (eLeaf k v 0) = 0 + 0 + (if k = 28 ∨ k = 29 then 2 else if k = 70 then 0 else 1) from rfl, if_neg (by omega), if_neg (by omega)]; omega
    · refine ⟨RunX.fork (S := S) hN h5 hc hen hC (by omega) (by omega) (fun _ => hw) (fun x y hx hy => ?_) RunX.nl RunX.nl, one, ?_⟩
      · rw [← Option.some.inj hx, ← Option.some.inj hy]
        show 0 = arK k 0
        unfold arK
        rw [if_neg (by omega), if_neg (by omega), if_neg (by omega)]
      · rw [show cl (eLeaf k 0 w) = 0 + 0 + (if k = 28 ∨ k = 29 then 2 else if k = 70 then 0 else 1) from rfl, if_neg (by omega), if_neg (by omega)]; omega
    · obtain ⟨a1, a2, a3⟩ := IH a ha
      refine ⟨RunX.fork (S := S) hN h5 hc hen hC (by omega) (by omega) (by omega) (fun x y hx hy => ?_) a1 RunX.nl, one, ?_⟩
      · rw [← Option.some.inj hy, List.append_nil, a2 x hx]
        unfold arK
        rw [if_neg (by omega), if_neg (by omega), if_pos (by omega)]
      · rw [show cl (eUn k 0 0 a) = cl a + 0 + (if k = 28 ∨ k = 29 then 2 else if k = 70 then 0 else 1) from rfl]; omega
    · obtain ⟨a1, a2, a3⟩ := IH a ha
      refine ⟨RunX.fork (S := S) hN h5 hc hen hC (by omega) (by omega) (fun _ => hw) (fun x y hx hy => ?_) a1 RunX.nl, one, ?_⟩
      · rw [← Option.some.inj hy, List.append_nil, a2 x hx]
        unfold arK
        rw [if_neg (by omega), if_neg (by omega), if_pos (by omega)]
      · rw [show cl (eUn k 0 w a) = cl a + 0 + (if k = 28 ∨ k = 29 then 2 else if k = 70 then 0 else 1) from rfl]; omega
    · obtain ⟨a1, a2, a3⟩ := IH a ha
      obtain ⟨b1, b2, b3⟩ := IH b hb
      refine ⟨?_, one, ?_⟩
      · by_cases z : k = 28 ∨ k = 29
        · exact RunX.and hn hen z (fun x hx => Ox.te_one (S := S) ⟨n, ha⟩ hx) (fun x hx => Ox.te_one (S := S) ⟨n, hb⟩ hx) a1 b1
        · refine RunX.fork (S := S) hN h5 hc hen hC (by omega) (by omega) (by omega) (fun x y hx hy => ?_) a1 b1
          rw [List.length_append, a2 x hx, b2 y hy]
          unfold arK
          rw [if_neg (by omega), if_pos (by omega)]
      · show 1 ≤ cl (nd k 0 0 a b)
        rw [cl_nd]; omega
    · obtain ⟨s1, s2, s3⟩ := RunX.spine (S := S) hN h5 hc hen hC IH m s hs
      refine ⟨RunX.fork (S := S) hN h5 hc hen hC (by omega) (fun _ => s3) (fun _ => hw) (fun x y hx hy => ?_) s1 RunX.nl, one, ?_⟩
      · rw [← Option.some.inj hy, List.append_nil, s2 x hx]
        rfl
      · show 1 ≤ cl s + 0 + 1
        omega
