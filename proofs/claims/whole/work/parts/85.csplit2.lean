/-! ===== THE CLASS' SPLIT: word by word ===== -/
theorem tn9 {N P m U : Nat} {T : Txt} (hr : RunOf alN T.1 T.2 P m) (hU : U + m ≤ 3246) : ∀ (j n q : Nat) (h : pH), q + j = m → Sg h → TapeIs T h → rd h 8 5 = Int32.ofNat (U + q) →
    ∃ h', fX10_takeName_9 N (n + j + 1) 8 7 (Int32.ofNat T.2) (Int32.ofNat P) (Int32.ofNat U) (Int32.ofNat (P + q)) h = fX10_takeName_49 N 8 (Int32.ofNat P) (Int32.ofNat U) (Int32.ofNat (P + m)) h' ∧ rd h' 8 5 = Int32.ofNat (U + m) ∧ (∀ i, i < q → rd h' 12 (U + i) = rd h 12 (U + i)) ∧ (∀ i, q ≤ i → i < m → rd h' 12 (U + i) = T.1 (P + i)) ∧ Chg (letA U) h h'
  | 0, n, q, h, hq, hs, ht, e5 => by
    obtain ⟨r1, r2, r3⟩ := hr
    obtain ⟨t1, t2, t3⟩ := ht
    obtain rfl : q = m := by omega
    refine ⟨h, ?_, e5, fun i hi => rfl, fun i i1 i2 => by omega, Chg.refl _ _⟩
    rw [fX10_takeName_9, ifLe (by omega) (by omega)]
    by_cases hc : T.2 ≤ P + q
    · rw [if_pos hc]
    · have hn := r3.resolve_left (by omega)
      rw [if_neg hc, L_7 hs (by omega), Option.bind_some, t2 _ (by omega), e10_isLetter, Option.bind_some]
      dsimp only
      rw [if_pos (let1.mpr (fun z => hn (Or.inl z))), L_7 hs (by omega), Option.bind_some, t2 _ (by omega), e10_isDigit, Option.bind_some]
      dsimp only
      rw [if_pos (dig1.mpr (fun z => hn (Or.inr z)))]
  | j + 1, n, q, h, hq, hs, ht, e5 => by
    obtain ⟨r1, r2, r3⟩ := id hr
    obtain ⟨t1, t2, t3⟩ := id ht
    have s1 := hs.wr 12 (U + q) (T.1 (P + q))
    have c1 : Chg (letA U) h (wr (wr h 12 (U + q) (T.1 (P + q))) 8 5 (Int32.ofNat (U + q + 1))) := (Chg.wr _ _ _ _ (Or.inl ⟨rfl, by omega⟩)).trans (Chg.wr _ _ _ _ (Or.inr ⟨rfl, rfl⟩))
    obtain ⟨h', k1, k2, k3, k4, k5⟩ := tn9 (N := N) hr hU j n (q + 1) (wr (wr h 12 (U + q) (T.1 (P + q))) 8 5 (Int32.ofNat (U + q + 1))) (by omega) (c1.sg hs) (ht.chg c1 (fun i => by unfold letA; omega)) (w_8_5 s1 _)
    have k35 : fX10_takeName_35 N (fX10_takeName_9 N (n + j + 1)) 8 7 (Int32.ofNat T.2) (Int32.ofNat P) (Int32.ofNat U) (Int32.ofNat (P + q)) h = fX10_takeName_49 N 8 (Int32.ofNat P) (Int32.ofNat U) (Int32.ofNat (P + m)) h' := by
      unfold fX10_takeName_35
      rw [L_7 hs (by omega), Option.bind_some, t2 _ (by omega), e10_addLetter _ hs e5 (by omega), Option.bind_some, i_add1]
      exact k1
    refine ⟨h', ?_, k2, fun i hi => ?_, fun i i1 i2 => ?_, c1.trans k5⟩
    · rw [show n + (j + 1) + 1 = n + j + 1 + 1 by omega, fX10_takeName_9, ifLe (by omega) (by omega), if_neg (by omega), L_7 hs (by omega), Option.bind_some, t2 _ (by omega), e10_isLetter, Option.bind_some]
      dsimp only
      by_cases hl : isLt (T.1 (P + q))
      · rw [if_neg (fun z => let1.mp z hl)]
        exact k35
      · have hd : isDg (T.1 (P + q)) := (r2 q (by omega)).resolve_left hl
        rw [if_pos (let1.mpr hl), L_7 hs (by omega), Option.bind_some, t2 _ (by omega), e10_isDigit, Option.bind_some]
        dsimp only
        rw [if_neg (fun z => dig1.mp z hd)]
        exact k35
    · rw [k3 i (by omega), rd_wr_ne _ _ (by omega), rd_wr_ne _ _ (by omega)]
    · by_cases z : i = q
      · subst z
        rw [k3 i (by omega), rd_wr_ne _ _ (by omega), W_12 hs]
      · exact k4 i (by omega) i2
theorem WI.takeName {N n U t p : Nat} {T : Txt} {r : List (List Int32)} {h : pH} (hN : 3300 ≤ N) (q : WI T r U t p h) (hp : p = tkP T t) (hpl : p < T.2) (hr : RunOf alN T.1 T.2 p n) (h1n : 1 ≤ n) (hn : tkN T p = n) (hK : tkK T t = if keyS (wl T.1 p n) = 0 then 22 else Int32.ofNat (keyS (wl T.1 p n))) :
    ∃ s U' h', fX10_takeName N 8 7 (Int32.ofNat T.2) (Int32.ofNat p) h = some (Int32.ofNat (p + n), h') ∧ WI T (r ++ s) U' (t + 1) (p + n) h' ∧ Chg wdA h h' := by
  obtain ⟨q1, q2, q3, q4, q5, q6, q7, q8, q9⟩ := id q
  obtain ⟨t1, t2, t3⟩ := id q1
  have hs := q2.1
  have hpn := hr.1
  obtain ⟨h1, k1, k2, -, k4, k5⟩ := tn9 (N := N) (U := U) hr (by omega) n (N - (n + 1)) 0 h (by omega) hs q1 q3
  rw [show N - (n + 1) + n + 1 = N by omega, Nat.add_zero] at k1
  have hw : wl (rd h1 12) U n = wl T.1 p n := wl_eq.mpr ⟨rfl, fun j hj => k4 j (by omega) hj⟩
  have nt1 := q2.chg k5 (Nat.le_refl _) (by unfold letA; omega) (fun i hi => by unfold letA; omega) (fun a k a1 a2 => by unfold letA; omega)
  have hlen : (fxW ++ r).length < 3100 := by rw [List.length_append]; have : fxW.length = 29 := rfl; omega
  obtain ⟨k, s, U', h2, l1, l2, l3, l4, l5, l6, l7, l8⟩ := e10_nameW hN nt1 hlen k2 (by omega) q5
  rw [hw] at l2
  have htW : tkW T t = wl T.1 p n := by unfold tkW; rw [← hp, hn]
  have kk : (k < 21 → keyS (wl T.1 p n) = k + 1) ∧ (21 ≤ k → keyS (wl T.1 p n) = 0) := by
    rw [List.append_assoc] at l2 l5
    exact name_kind l5 l2
  have cc : Chg nmA h h2 := (k5.mono (fun a k z => by unfold letA at z; unfold nmA; omega)).trans l8
  have e3 : rd h2 8 3 = Int32.ofNat t := by rw [cc.2.2.1 _ _ (by unfold nmA; omega)]; exact q4
  have hk31 : k < 3100 := by
    have := (List.getElem?_eq_some_iff.mp l2).1
    rw [List.length_append] at this
    omega
  have hK0 : tkK T t ≠ 0 := fun z => by have := Tk_zero (tk_is T t) z; omega
  have hK24 : tkK T t ≠ 24 := by
    rw [hK]
    by_cases z : keyS (wl T.1 p n) = 0
    · rw [if_pos z]; decide
    · rw [if_neg z, show (24 : Int32) = Int32.ofNat 24 from rfl]
      intro y
      have := (iEq (by have := keyS_le (wl T.1 p n); omega) (by decide)).mp y
      have := keyS_le (wl T.1 p n)
      omega
  have kl := keyS_le (wl T.1 p n)
  have fin : ∀ V, (tkK T t = 22 → ∃ k, 21 ≤ k ∧ V = Int32.ofNat k ∧ (fxW ++ r ++ s)[k]? = some (tkW T t)) → (tkK T t = 23 → V = tkV T t) → WI T (r ++ s) U' (t + 1) (p + n) (aw h2 t (tkK T t) V (Int32.ofNat (tkP T t))) := fun V v1 v2 => q.add l3 cc l4 l5 (by omega) l7 h1n hK0 hK24 v1 v2
  have hK23 : tkK T t ≠ 23 := by
    rw [hK]
    by_cases z : keyS (wl T.1 p n) = 0
    · rw [if_pos z]; decide
    · rw [if_neg z, show (23 : Int32) = Int32.ofNat 23 from rfl]
      intro y
      have := (iEq (by omega) (by decide)).mp y
      omega
  have top : fX10_takeName N 8 7 (Int32.ofNat T.2) (Int32.ofNat p) h = fX10_takeName_49 N 8 (Int32.ofNat p) (Int32.ofNat U) (Int32.ofNat (p + n)) h1 := by
    unfold fX10_takeName
    rw [if_pos (o_8 hs), g_8_5 hs, Option.bind_some, if_neg (by decide), q3]
    exact k1
  have cw : ∀ K V P, Chg wdA h (aw h2 t K V P) := fun K V P => (cc.mono (fun a k z => by unfold nmA at z; unfold wdA; omega)).trans ((aw_chg h2 t K V P).mono (fun a k z => by unfold awA at z; unfold wdA; omega))
  by_cases h21 : 21 ≤ k
  · have hz := kk.2 h21
    rw [if_pos hz] at hK
    refine ⟨s, U', aw h2 t (tkK T t) (Int32.ofNat k) (Int32.ofNat (tkP T t)), ?_, fin _ (fun _ => ⟨k, h21, rfl, by rw [htW]; exact l2⟩) (fun z => absurd z hK23), cw _ _ _⟩
    rw [top]
    unfold fX10_takeName_49
    rw [l1, Option.bind_some]
    dsimp only
    rw [show (21 : Int32) = Int32.ofNat 21 from rfl, ifLe (by decide) (by omega), if_pos h21, e10_addWord _ _ _ l3.1 e3 (by omega), Option.bind_some, hK, ← hp]
    rfl
  · have hz := kk.1 (by omega)
    rw [if_neg (by omega), hz] at hK
    refine ⟨s, U', aw h2 t (tkK T t) 0 (Int32.ofNat (tkP T t)), ?_, fin _ (fun z => ?_) (fun z => absurd z hK23), cw _ _ _⟩
    · rw [top]
      unfold fX10_takeName_49
      rw [l1, Option.bind_some]
      dsimp only
      rw [show (21 : Int32) = Int32.ofNat 21 from rfl, ifLe (by decide) (by omega), if_neg h21, i_add1, e10_addWord _ _ _ l3.1 e3 (by omega), Option.bind_some, hK, ← hp]
      rfl
    · rw [hK, show (22 : Int32) = Int32.ofNat 22 from rfl] at z
      have := (iEq (by omega) (by decide)).mp z
      omega
theorem num_step (a b : Int32) : a * 10 + (b - 48) = 10 * a + b - 48 := by
  rw [Int32.mul_comm, Int32.sub_eq_add_neg, Int32.sub_eq_add_neg, Int32.add_assoc]
theorem tnum6 {N P m : Nat} {T : Txt} (hr : RunOf isDg T.1 T.2 P m) {h : pH} (hs : Sg h) (ht : TapeIs T h) : ∀ (j n q : Nat), q + j = m →
    fX10_takeNumber_6 N (n + j + 1) 8 7 (Int32.ofNat T.2) (Int32.ofNat P) (numV T.1 P q) (Int32.ofNat (P + q)) h = fX10_takeNumber_43 N 8 (Int32.ofNat T.2) (Int32.ofNat P) (numV T.1 P m) (Int32.ofNat (P + m)) h
  | 0, n, q, hq => by
    obtain ⟨r1, r2, r3⟩ := hr
    obtain ⟨t1, t2, t3⟩ := ht
    obtain rfl : q = m := by omega
    rw [fX10_takeNumber_6, ifLe (by omega) (by omega)]
    by_cases hc : T.2 ≤ P + q
    · rw [if_pos hc]
    · have hn := r3.resolve_left (by omega)
      rw [if_neg hc, L_7 hs (by omega), Option.bind_some, t2 _ (by omega), e10_isDigit, Option.bind_some]
      dsimp only
      rw [if_pos (dig1.mpr hn)]
  | j + 1, n, q, hq => by
    obtain ⟨r1, r2, r3⟩ := id hr
    obtain ⟨t1, t2, t3⟩ := id ht
    rw [show n + (j + 1) + 1 = n + j + 1 + 1 by omega, fX10_takeNumber_6, ifLe (by omega) (by omega), if_neg (by omega), L_7 hs (by omega), Option.bind_some, t2 _ (by omega), e10_isDigit, Option.bind_some]
    dsimp only
    rw [if_neg (fun z => dig1.mp z (r2 q (by omega))), L_7 hs (by omega), Option.bind_some, t2 _ (by omega), num_step, i_add1]
    exact tnum6 hr hs ht j n (q + 1) (by omega)
theorem two2_0 (c : Int32) : two2 c 0 = 24 := by
  unfold two2
  rw [if_neg (by decide)]
  by_cases w : c = 0
  · rw [if_pos w, w]; decide
  · rw [if_neg w]
/-- one word, or one byte between words -/
theorem WI.takeWord {N U t p : Nat} {T : Txt} {r : List (List Int32)} {h : pH} (hN : 3300 ≤ N) (q : WI T r U t p h) (hpl : p < T.2) (hk : SkipTo T.1 T.2 p (tkP T t)) :
    (p < tkP T t ∧ fX10_takeWord N 8 7 (Int32.ofNat T.2) (Int32.ofNat p) h = some (Int32.ofNat (p + 1), h)) ∨
    (p = tkP T t ∧ tkK T t ≠ 24 ∧ ∃ s U' h', fX10_takeWord N 8 7 (Int32.ofNat T.2) (Int32.ofNat p) h = some (Int32.ofNat (tkE T t), h') ∧ WI T (r ++ s) U' (t + 1) (tkE T t) h' ∧ Chg wdA h h') ∨
    (p = tkP T t ∧ tkK T t = 24 ∧ fX10_takeWord N 8 7 (Int32.ofNat T.2) (Int32.ofNat p) h = some (Int32.ofNat T.2, aw h t 24 0 (Int32.ofNat p))) := by
  obtain ⟨q1, q2, q3, q4, q5, q6, q7, q8, q9⟩ := id q
  obtain ⟨t1, t2, t3⟩ := id q1
  have hs := q2.1
  obtain ⟨k1, k2, k3, k4⟩ := hk
  by_cases hsp : isSp (T.1 p)
  · refine Or.inl ⟨?_, ?_⟩
    · rcases Nat.lt_or_ge p (tkP T t) with z | z
      · exact z
      · have e : tkP T t = p := by omega
        rw [e] at k4
        exact absurd hsp (k4.resolve_left (by omega))
    · unfold fX10_takeWord
      rw [if_pos (o_8 hs), if_neg (by decide), L_7 hs (by omega), Option.bind_some, t2 _ hpl]
      rcases hsp with z | z
      · rw [if_pos z, i_add1]
      · rw [if_neg (by rw [z]; decide), if_pos z, i_add1]
  · have hp : p = tkP T t := by
      rcases Nat.lt_or_ge p (tkP T t) with z | z
      · exact absurd (k3 p (Nat.le_refl p) z) hsp
      · omega
    refine Or.inr ?_
    have h32 : ¬ T.1 p = 32 := fun z => hsp (Or.inl z)
    have h10 : ¬ T.1 p = 10 := fun z => hsp (Or.inr z)
    have tk := tk_is T t
    rw [← hp] at tk
    have hE : tkE T t = p + tkN T p := by rw [tkE_eq, ← hp]
    rcases tk with ⟨a0, a1, a2, a3⟩ | ⟨a0, a1, a2, a3, a4⟩ | ⟨a0, a1, a2, a3, a4⟩ | ⟨a0, a1, a2, a3, a4⟩
    · omega
    · have hn1 : 1 ≤ tkN T p := by
        rcases Nat.eq_zero_or_pos (tkN T p) with z | z
        · rw [z] at a2
          exact absurd (Or.inl a1) (a2.2.2.resolve_left (by omega))
        · exact z
      obtain ⟨s, U', h', e1, e2, e3⟩ := q.takeName hN hp hpl a2 hn1 rfl a3
      refine Or.inl ⟨hp, ?_, s, U', h', ?_, by rw [hE]; exact e2, e3⟩
      · exact (e2.2.2.2.2.2.2.2.2 t (by omega)).2.1
      · unfold fX10_takeWord
        rw [if_pos (o_8 hs), if_neg (by decide), L_7 hs (by omega), Option.bind_some, t2 _ hpl, if_neg h32, if_neg h10, e10_isLetter, Option.bind_some]
        dsimp only
        rw [if_neg (fun z => let1.mp z a1), e1, Option.bind_some, hE]
    · have hbeg : ∀ x, fX10_takeNumber N 8 7 (Int32.ofNat T.2) (Int32.ofNat p) h = some x → fX10_takeWord N 8 7 (Int32.ofNat T.2) (Int32.ofNat p) h = some x := by
        intro x hx
        unfold fX10_takeWord
        rw [if_pos (o_8 hs), if_neg (by decide), L_7 hs (by omega), Option.bind_some, t2 _ hpl, if_neg h32, if_neg h10, e10_isLetter, Option.bind_some]
        dsimp only
        rw [if_pos (let1.mpr a1), e10_isDigit, Option.bind_some]
        dsimp only
        rw [if_neg (fun z => dig1.mp z a2), hx, Option.bind_some]
      have hn1 : 1 ≤ tkN T p := by
        rcases Nat.eq_zero_or_pos (tkN T p) with z | z
        · rw [z] at a3
          exact absurd a2 (a3.2.2.resolve_left (by omega))
        · exact z
      have hpn := a3.1
      have top : fX10_takeNumber N 8 7 (Int32.ofNat T.2) (Int32.ofNat p) h = fX10_takeNumber_43 N 8 (Int32.ofNat T.2) (Int32.ofNat p) (numV T.1 p (tkN T p)) (Int32.ofNat (p + tkN T p)) h := by
        unfold fX10_takeNumber
        rw [if_pos (o_8 hs), if_neg (by decide)]
        have := tnum6 (N := N) a3 hs q1 (tkN T p) (N - (tkN T p + 1)) 0 (by omega)
        rw [show N - (tkN T p + 1) + tkN T p + 1 = N by omega] at this
        exact this
      rcases a4 with ⟨c1, c2, c3⟩ | ⟨c1, c2, c3⟩
      · refine Or.inl ⟨hp, by rw [c2]; decide, [], U, aw h t (tkK T t) (tkV T t) (Int32.ofNat (tkP T t)), hbeg _ ?_, ?_, (aw_chg _ _ _ _ _).mono (fun a k z => by unfold awA at z; unfold wdA; omega)⟩
        · rw [top]
          unfold fX10_takeNumber_43
          rw [i_sub, show (9 : Int32) = Int32.ofNat 9 from rfl, ifLe (by omega) (by decide), if_pos c1, e10_addWord _ _ _ hs q4 (by omega), Option.bind_some, c2, c3, ← hp, hE]
          rfl
        · rw [hE]
          exact q.add (s := []) (by rw [List.append_nil]; exact q2) (Chg.refl _ _) q3 (by rw [List.append_nil]; exact q5) (Nat.zero_le _) (by omega) hn1 (by rw [c2]; decide) (by rw [c2]; decide) (fun z => by rw [c2] at z; exact absurd z (by decide)) (fun _ => rfl)
      · refine Or.inr ⟨hp, c2, hbeg _ ?_⟩
        rw [top]
        unfold fX10_takeNumber_43
        rw [i_sub, show (9 : Int32) = Int32.ofNat 9 from rfl, ifLe (by omega) (by decide), if_neg (by omega), e10_addWord _ _ _ hs q4 (by omega), Option.bind_some]
        rfl
    · obtain ⟨b, b1, b2⟩ := t3 p hpl
      obtain ⟨x, x1, x2, x3⟩ := e_indexOf (N := N) (h := h) hN b1
      rw [← b2] at x1 x2 x3
      have top : fX10_takeWord N 8 7 (Int32.ofNat T.2) (Int32.ofNat p) h = fX10_takeWord_77 N 8 (Int32.ofNat T.2) (Int32.ofNat p) (T.1 p) (two2 (T.1 p) (byt2 T.1 T.2 p)) h := by
        unfold fX10_takeWord
        rw [if_pos (o_8 hs), if_neg (by decide), L_7 hs (by omega), Option.bind_some, t2 _ hpl, if_neg h32, if_neg h10, e10_isLetter, Option.bind_some]
        dsimp only
        rw [if_pos (let1.mpr a1), e10_isDigit, Option.bind_some]
        dsimp only
        rw [if_pos (dig1.mpr a2), i_add1, ifLe (by omega) (by omega)]
        unfold byt2
        by_cases z : T.2 ≤ p + 1
        · rw [if_pos z, if_pos z, two2_0]
        · rw [if_neg z, if_neg z, L_7 hs (by omega), Option.bind_some, t2 _ (by omega), e10_signOfTwo, Option.bind_some]
      have add : ∀ n K, K = tkK T t → tkN T p = n → 1 ≤ n → K ≠ 0 → K ≠ 24 → K ≠ 22 → K ≠ 23 → WI T (r ++ []) U (t + 1) (tkE T t) (aw h t (tkK T t) 0 (Int32.ofNat (tkP T t))) := by
        intro n K hK hn hn1 k0 k24 k22 k23
        rw [hE, hn]
        exact q.add (s := []) (by rw [List.append_nil]; exact q2) (Chg.refl _ _) q3 (by rw [List.append_nil]; exact q5) (Nat.zero_le _) (by omega) hn1 (hK ▸ k0) (hK ▸ k24) (fun z => absurd (hK.trans z) k22) (fun z => absurd (hK.trans z) k23)
      have cw : Chg wdA h (aw h t (tkK T t) 0 (Int32.ofNat (tkP T t))) := (aw_chg _ _ _ _ _).mono (fun a k z => by unfold awA at z; unfold wdA; omega)
      rcases a4 with ⟨c1, c2, c3⟩ | ⟨c1, c2, c3, c4⟩ | ⟨c1, c2, c3, c4⟩
      · refine Or.inl ⟨hp, by rw [c2]; exact c1, [], U, _, ?_, add 2 _ c2.symm c3 (by decide) ?_ c1 ?_ ?_, cw⟩
        · rw [top]
          unfold fX10_takeWord_77
          rw [if_neg c1, e10_addWord _ _ _ hs q4 (by omega), Option.bind_some, i_add2, ← c2, ← hp, hE, c3]
          rfl
        · rcases two2_24 (T.1 p) (byt2 T.1 T.2 p) with z | z | z | z | z | z <;> rw [z] <;> decide
        · rcases two2_24 (T.1 p) (byt2 T.1 T.2 p) with z | z | z | z | z | z <;> rw [z] <;> decide
        · rcases two2_24 (T.1 p) (byt2 T.1 T.2 p) with z | z | z | z | z | z <;> rw [z] <;> decide
      · have kk : T.1 p ≠ 0 ∧ T.1 p ≠ 24 ∧ T.1 p ≠ 22 ∧ T.1 p ≠ 23 := by
          refine ⟨?_, ?_, ?_, ?_⟩ <;> (intro z; rw [z] at c2; exact absurd c2 (by decide))
        refine Or.inl ⟨hp, by rw [c3]; exact kk.2.1, [], U, _, ?_, add 1 _ c3.symm c4 (by decide) kk.1 kk.2.1 kk.2.2.1 kk.2.2.2, cw⟩
        rw [top, c1]
        unfold fX10_takeWord_77
        rw [if_pos rfl, x1, Option.bind_some]
        dsimp only
        rw [if_neg (x2 c2), e10_addWord _ _ _ hs q4 (by omega), Option.bind_some, i_add1, ← c3, ← hp, hE, c4]
        rfl
      · refine Or.inr ⟨hp, c3, ?_⟩
        rw [top, c1]
        unfold fX10_takeWord_77
        rw [if_pos rfl, x1, Option.bind_some]
        dsimp only
        rw [if_pos (x3 c2), e10_addWord _ _ _ hs q4 (by omega), Option.bind_some]
        rfl
