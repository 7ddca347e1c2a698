/-! ===== THE CLASS' METHODS; ITS FIRST BAD MEMBER ===== -/
theorem kI_if {α : Type} (k : Bool) (x y : α) : (if kI k = 0 then x else y) = if k = true then y else x := by cases k <;> rfl
theorem CM1.mfine {P : Pgm} {D : List Int32 → Prop} {num : List Int32 → Nat} {N c m : Nat} {b : Mb} {h : pH} (hN : 1100 ≤ N) (q : CT P D num h) (hp : CPr P h) (cm : CM1 P D num h) (hb : P.ms[m]? = some b) (hc : c < P.n) (hcm : P.mf c ≤ m) : fX0_isMethodFine N 50 (Int32.ofNat c) (Int32.ofNat m) h = some (kI (P.mfine c m b), h) := by
  have hm := (List.getElem?_eq_some_iff.mp hb).1
  have hl := q.2.2.2.2.2.2.2.2.2.1
  have hn := q.2.2.2.2.2.1
  obtain ⟨z1, z2, z3, z4⟩ := q.2.2.2.2.2.2.2.2.2.2 m b hb
  obtain ⟨y1, y2, y3, y4⟩ := q.2.2.2.2.2.2.1 c hc
  have am := q.among (N := N) (kk := true) (i := P.mf c) (j := m) hN z1 hcm (by omega)
  have hd := q.hadO (N := N) (kk := true) (d := -1) (o := P.par c) hp hN z1 (by decide) (fun e he => Pgm.par_lt he)
  have hpf := CM1.pfine hN q cm hb
  rw [show kI true = 1 from rfl] at am hd
  unfold fX0_isMethodFine Pgm.mfine
  rw [if_pos (o_50 q.1), R_50_1 q.1, Option.bind_some, R_25_1 q.1, Option.bind_some, L_26 q.1 (by omega), Option.bind_some, Option.bind_some, R_25_3 q.1, Option.bind_some, L_28 q.1 (by omega), Option.bind_some, (cm.2.2.1 m b hb).1, z2]
  by_cases h5 : P.rt b.2.1 = 5
  · rw [if_pos ((ctI_5 (by omega) P.rt_ok).mpr h5), decide_eq_false (fun z => z h5), Bool.false_and]
    rfl
  · rw [if_neg (fun z => h5 ((ctI_5 (by omega) P.rt_ok).mp z)), decide_eq_true h5, Bool.true_and, hpf, Option.bind_some]
    dsimp only
    rw [kI_if]
    cases P.pfine b with
    | false => rfl
    | true =>
      rw [if_pos rfl, Bool.true_and, R_50_1 q.1, Option.bind_some, R_50_0 q.1, Option.bind_some, R_17_4 q.1, Option.bind_some, L_22 q.1 (by omega), Option.bind_some, y3]
      rw [am, Option.bind_some]
      dsimp only
      rw [isNone_kI (fun e he => by have := (Pgm.amg_lt he).1; omega)]
      cases (P.amg true (P.1 b.2.2.1) (P.mf c) m).isNone with
      | false => rfl
      | true =>
        rw [if_pos rfl, Bool.true_and, R_50_1 q.1, Option.bind_some, R_50_0 q.1, Option.bind_some, R_17_3 q.1, Option.bind_some, L_21 q.1 (by omega), Option.bind_some, hp c hc, hd, Option.bind_some]
        dsimp only
        rcases ho : P.hadO true (P.1 b.2.2.1) (P.par c) with _ | e
        · rfl
        · have he := Pgm.hadO_lt ho
          have hx : P.ms[e]? = some (P.ms[e]'he) := List.getElem?_eq_getElem he
          generalize P.ms[e]'he = x at hx
          have hs := CM1.same hN q cm hb hx
          have hov : P.over b (some e) = P.same b x := by unfold Pgm.over; dsimp only; rw [hx]
          rw [if_neg (show ¬ oI (-1) (some e) = -1 from i_ne_neg (by omega) (by decide)), hov, show oI (-1) (some e) = Int32.ofNat e from rfl, hs, Option.bind_some]
          dsimp only
          cases P.same b x <;> rfl
theorem CM1.bad_23 {P : Pgm} {D : List Int32 → Prop} {num : List Int32 → Nat} {N c : Nat} {h : pH} {k2 : Nat → Int32 → pH → Option (Int32 × pH)} (hN : 1100 ≤ N) (q : CT P D num h) (hp : CPr P h) (cm : CM1 P D num h) (hc : c < P.n) : ∀ (d m k : Nat), m + d = P.mf (c + 1) → P.mf c ≤ m → d < k → fX0_badMember_23 N k2 k 50 (Int32.ofNat c) (Int32.ofNat m) h = match fstN (P.mbad c) d m with
    | some m' => some (Int32.ofNat (P.mpl m'), h)
    | none => k2 50 (Int32.ofNat (c + 1)) h
  | 0, m, k, hd, hcm, hk => by
    obtain ⟨k, rfl⟩ : ∃ k', k = k' + 1 := ⟨k - 1, by omega⟩
    have hn := q.2.2.2.2.2.1
    have hl := q.2.2.2.2.2.2.2.2.2.1
    have hml := P.mf_le (c + 1)
    rw [← P.ms_len] at hml
    obtain ⟨y1, y2, y3, y4⟩ := q.2.2.2.2.2.2.1 c hc
    rw [fX0_badMember_23, R_50_0 q.1, Option.bind_some, R_17_5 q.1, Option.bind_some, L_23 q.1 (by omega), Option.bind_some, y4, ifLe (by omega) (by omega), if_pos (by omega), i_add1]
    rfl
  | d + 1, m, k, hd, hcm, hk => by
    obtain ⟨k, rfl⟩ : ∃ k', k = k' + 1 := ⟨k - 1, by omega⟩
    have hn := q.2.2.2.2.2.1
    have hl := q.2.2.2.2.2.2.2.2.2.1
    have hml := P.mf_le (c + 1)
    rw [← P.ms_len] at hml
    obtain ⟨y1, y2, y3, y4⟩ := q.2.2.2.2.2.2.1 c hc
    have hb : P.ms[m]? = some (P.ms[m]'(by omega)) := List.getElem?_eq_getElem (by omega)
    generalize P.ms[m]'(by omega) = b at hb
    obtain ⟨z1, z2, z3, z4⟩ := q.2.2.2.2.2.2.2.2.2.2 m b hb
    have IH := CM1.bad_23 (k2 := k2) hN q hp cm hc d (m + 1) k (by omega) (by omega) (by omega)
    have hpl : P.mpl m = b.2.2.2.1 := by unfold Pgm.mpl; rw [hb]
    have e63 : ∀ z : Bool, fX0_badMember_63 N k2 (fX0_badMember_23 N k2 k) 50 (Int32.ofNat c) (Int32.ofNat m) (kI z) h = if z = true then (match fstN (P.mbad c) d (m + 1) with
        | some m' => some (Int32.ofNat (P.mpl m'), h)
        | none => k2 50 (Int32.ofNat (c + 1)) h) else some (Int32.ofNat (P.mpl m), h) := fun z => by
      unfold fX0_badMember_63
      rw [kI_if, R_50_1 q.1, Option.bind_some, R_25_2 q.1, Option.bind_some, L_27 q.1 (by omega), Option.bind_some, i_add1, IH, z4, hpl]
    rw [fX0_badMember_23, R_50_0 q.1, Option.bind_some, R_17_5 q.1, Option.bind_some, L_23 q.1 (by omega), Option.bind_some, y4, ifLe (by omega) (by omega), if_neg (by omega), R_50_1 q.1, Option.bind_some, R_25_4 q.1, Option.bind_some, L_29 q.1 (by omega), Option.bind_some, z3, CM1.ffine hN q hp cm hb hc hcm, Option.bind_some, CM1.mfine hN q hp cm hb hc hcm, Option.bind_some]
    dsimp only
    rw [e63, e63, fstN_succ]
    have hmb : P.mbad c m = !(if b.1 = true then P.mfine c m b else P.ffine c m b) := by unfold Pgm.mbad; rw [hb]
    rw [hmb]
    cases b.1
    · cases P.ffine c m b <;> rfl
    · cases P.mfine c m b <;> rfl
theorem CM1.bad_2 {P : Pgm} {D : List Int32 → Prop} {num : List Int32 → Nat} {N : Nat} {h : pH} (hN : 1100 ≤ N) (q : CT P D num h) (hp : CPr P h) (cm : CM1 P D num h) : ∀ (d c k : Nat), c + d = P.n → 5 ≤ c → d < k → fX0_badMember_2 N k 50 (Int32.ofNat c) h = some (oI (-1) (P.badBF d c), h)
  | 0, c, k, hd, hc, hk => by
    obtain ⟨k, rfl⟩ : ∃ k', k = k' + 1 := ⟨k - 1, by omega⟩
    have hn := q.2.2.2.2.2.1
    rw [fX0_badMember_2, R_50_0 q.1, Option.bind_some, g_17_7 q.1, Option.bind_some, q.2.2.2.2.1, ifLe (by omega) (by omega), if_pos (by omega)]
    rfl
  | d + 1, c, k, hd, hc, hk => by
    obtain ⟨k, rfl⟩ : ∃ k', k = k' + 1 := ⟨k - 1, by omega⟩
    have hn := q.2.2.2.2.2.1
    have hl := q.2.2.2.2.2.2.2.2.2.1
    have hml := P.mf_le (c + 1)
    rw [← P.ms_len] at hml
    have hmo := P.mf_mono (c := c)
    obtain ⟨y1, y2, y3, y4⟩ := q.2.2.2.2.2.2.1 c (by omega)
    rw [fX0_badMember_2, R_50_0 q.1, Option.bind_some, g_17_7 q.1, Option.bind_some, q.2.2.2.2.1, ifLe (by omega) (by omega), if_neg (by omega), Option.bind_some, R_17_4 q.1, Option.bind_some, L_22 q.1 (by omega), Option.bind_some, y3, CM1.bad_23 hN q hp cm (by omega) (P.mf (c + 1) - P.mf c) (P.mf c) N (by omega) (by omega) (by omega)]
    rw [show P.badBF (d + 1) c = match fstN (P.mbad c) (P.mf (c + 1) - P.mf c) (P.mf c) with
      | some m => some (P.mpl m)
      | none => P.badBF d (c + 1) from rfl]
    rcases fstN (P.mbad c) (P.mf (c + 1) - P.mf c) (P.mf c) with _ | m
    · exact CM1.bad_2 hN q hp cm d (c + 1) k (by omega) (by omega) (by omega)
    · rfl
theorem CM1.badMember {P : Pgm} {D : List Int32 → Prop} {num : List Int32 → Nat} {N : Nat} {h : pH} (hN : 1100 ≤ N) (q : CT P D num h) (hp : CPr P h) (cm : CM1 P D num h) : fX0_badMember N 50 h = some (oI (-1) P.badB, h) := by
  have hn := q.2.2.2.2.2.1
  have hnn : P.n = 5 + P.2.length := rfl
  unfold fX0_badMember
  rw [if_pos (o_50 q.1), show (5 : Int32) = Int32.ofNat 5 from rfl, CM1.bad_2 hN q hp cm P.2.length 5 N (by omega) (by omega) (by omega)]
  rfl
