/-! ===== STATEMENTS AND BLOCKS, TIED TOGETHER ===== -/
theorem PostS_back {T : Txt} {p : Pr Tr} {t r s n l q : Nat} {h h1 : pH} {res : Option (Int32 × pH)} (hp : PostS T p t r s n l q h1 res) (f : FrS s n l q h h1) : PostS T p t r s n l q h res := by
  rcases p with ⟨e, t'⟩ | w
  · rw [PostS_ok] at hp ⊢
    obtain ⟨h2, e2, a, sr, e161, f2, c⟩ := hp
    exact ⟨h2, e2, a, sr, e161, f.trans f2, c⟩
  · rw [PostS_no] at hp ⊢
    obtain ⟨v, h2, n', l', q', e2, a, f2, c⟩ := hp
    exact ⟨v, h2, n', l', q', e2, a, f.trans f2, c⟩
theorem stm_eq (T : Txt) (r : Nat) (bk : Nat → Pr (Tr × Nat)) (t : Nat) : (tkS T).stm r bk t =
  if (tkS T).tells t = true then (tkS T).tellS r t
  else if tkK T t = 6 then (tkS T).ifS r bk t
  else if tkK T t = 8 then (tkS T).whileS r bk t
  else if tkK T t = 11 then (tkS T).tryS r bk t
  else if tkK T t = 9 then (if tkK T (t + 1) = 59 then ok (bRet (tkP T t) nl) (t + 2) else (tkS T).workS r 41 t)
  else if tkK T t = 10 then (tkS T).workS r 42 t
  else if tkK T t = 13 then (tkS T).workS r 43 t
  else (tkS T).placeS r t := rfl
theorem tells_iff (T : Txt) (t : Nat) : (tkS T).tells t = true ↔ ((tkK T t = 2 ∨ tkK T t = 3 ∨ tkK T t = 4) ∨ (tkK T t = 22 ∧ tkK T (t + 1) = 22)) := by
  unfold Tks.tells
  exact decide_eq_true_iff
theorem ty_some {T : Txt} {t : Nat} (h : (tkS T).tells t = true) : ∃ y, (tkS T).ty t = some y := by
  rw [ty_eq]
  rcases (tells_iff T t).mp h with (z | z | z) | ⟨z, _⟩ <;> rw [z]
  · exact ⟨0, rfl⟩
  · exact ⟨1, rfl⟩
  · exact ⟨2, rfl⟩
  · exact ⟨4 + t, rfl⟩
/-- no variable is told: by the word at hand -/
theorem stm91_post {T : Txt} {N t r s n l q : Nat} {rc : Nat → List Value → pH → Option (Option Value × pH)} {bk : Nat → Pr (Tr × Nat)} {h : pH} (hB : ∀ t s n l q h, At2 T t r s n l q h → PostB T (bk t) t r s n l q h (rcI rc 253 [.ref 138] h)) (hE : BlkE rc) (a : At2 T t r s n l q h) (hN : 3200 ≤ N) (hT : ¬ (tkS T).tells t = true) : PostS T ((tkS T).stm r bk t) t r s n l q h (fX12_statement_91 N rc 138 h) := by
  have hs := a.1.sg
  obtain ⟨id, hw, hwn⟩ := a.1.1.2.2.2.2.2.2.1
  have pl := place_post (N := N) a hN
  have pl426 : PostS T ((tkS T).placeS r t) t r s n l q h (fX12_statement_426 N rc 138 h) := by
    unfold fX12_statement_426
    rw [bind_pair]
    exact pl
  rw [stm_eq, if_neg hT]
  unfold fX12_statement_91
  rw [g_138_5 hs, Option.bind_some, hw.code]
  by_cases k5 : wcode (tkK T t) = 5
  · rw [if_pos k5, g_138_8 hs, Option.bind_some, hw.key k5]
    by_cases k6 : tkK T t = 6
    · rw [if_pos k6, k6]
      exact if_post hB hE a hN k6
    rw [if_neg k6]
    by_cases k8 : tkK T t = 8
    · rw [if_pos k8, k8]
      exact while_post hB hE a hN k8
    rw [if_neg k8]
    by_cases k11 : tkK T t = 11
    · rw [if_pos k11, k11]
      exact try_post hB hE a hN k11
    rw [if_neg k11]
    by_cases k9 : tkK T t = 9
    · have w := ret_post (rc := rc) (k := 41) a hN k9 (Or.inl ⟨rfl, rfl⟩)
      rw [if_pos k9, k9]
      unfold fX12_statement_107
      rw [if_neg (show ¬ (9 : Int32) = 6 by decide), if_neg (show ¬ (9 : Int32) = 7 by decide), if_neg (show ¬ (9 : Int32) = 8 by decide), if_pos rfl]
      by_cases k59 : tkK T (t + 1) = 59
      · rw [if_pos ⟨rfl, k59⟩] at w
        rw [if_pos k59]
        exact w
      · rw [if_neg (fun z => k59 z.2)] at w
        rw [if_neg k59]
        exact w
    rw [if_neg k9]
    by_cases k10 : tkK T t = 10
    · have w := ret_post (rc := rc) (k := 42) a hN k10 (Or.inr (Or.inl ⟨rfl, rfl⟩))
      rw [if_pos k10, k10]
      unfold fX12_statement_107
      rw [if_neg (fun z => absurd z.1 (by decide))] at w
      rw [if_neg (show ¬ (10 : Int32) = 6 by decide), if_neg (show ¬ (10 : Int32) = 7 by decide), if_neg (show ¬ (10 : Int32) = 8 by decide), if_neg (show ¬ (10 : Int32) = 9 by decide), if_pos rfl]
      exact w
    rw [if_neg k10]
    by_cases k13 : tkK T t = 13
    · have w := ret_post (rc := rc) (k := 43) a hN k13 (Or.inr (Or.inr ⟨rfl, rfl⟩))
      rw [if_pos k13, k13]
      unfold fX12_statement_107
      rw [if_neg (fun z => absurd z.1 (by decide))] at w
      rw [if_neg (show ¬ (13 : Int32) = 6 by decide), if_neg (show ¬ (13 : Int32) = 7 by decide), if_neg (show ¬ (13 : Int32) = 8 by decide), if_neg (show ¬ (13 : Int32) = 9 by decide), if_neg (show ¬ (13 : Int32) = 10 by decide), if_neg (show ¬ (13 : Int32) = 11 by decide), if_neg (show ¬ (13 : Int32) = 12 by decide), if_pos rfl]
      exact w
    rw [if_neg k13]
    unfold fX12_statement_107
    rw [if_neg k6]
    by_cases k7 : tkK T t = 7
    · rw [if_pos k7]
      exact pl426
    rw [if_neg k7, if_neg k8, if_neg k9, if_neg k10, if_neg k11]
    by_cases k12 : tkK T t = 12
    · rw [if_pos k12]
      exact pl426
    rw [if_neg k12, if_neg k13]
    exact pl426
  · have ne : ∀ k : Nat, 1 ≤ k → k ≤ 21 → tkK T t ≠ Int32.ofNat k := fun k h1 h2 z => k5 (by rw [z]; exact key_code h1 h2)
    rw [if_neg k5, if_neg (show ¬ tkK T t = 6 from ne 6 (by decide) (by decide)), if_neg (show ¬ tkK T t = 8 from ne 8 (by decide) (by decide)), if_neg (show ¬ tkK T t = 11 from ne 11 (by decide) (by decide)), if_neg (show ¬ tkK T t = 9 from ne 9 (by decide) (by decide)), if_neg (show ¬ tkK T t = 10 from ne 10 (by decide) (by decide)), if_neg (show ¬ tkK T t = 13 from ne 13 (by decide) (by decide))]
    unfold fX12_statement_107
    rw [if_neg (show ¬ (0 : Int32) = 6 by decide), if_neg (show ¬ (0 : Int32) = 7 by decide), if_neg (show ¬ (0 : Int32) = 8 by decide), if_neg (show ¬ (0 : Int32) = 9 by decide), if_neg (show ¬ (0 : Int32) = 10 by decide), if_neg (show ¬ (0 : Int32) = 11 by decide), if_neg (show ¬ (0 : Int32) = 12 by decide), if_neg (show ¬ (0 : Int32) = 13 by decide)]
    exact pl426
theorem stm_post {T : Txt} {N t r s n l q : Nat} {rc : Nat → List Value → pH → Option (Option Value × pH)} {bk : Nat → Pr (Tr × Nat)} {h : pH} (hB : ∀ t s n l q h, At2 T t r s n l q h → PostB T (bk t) t r s n l q h (rcI rc 253 [.ref 138] h)) (hE : BlkE rc) (a : At2 T t r s n l q h) (hN : 3200 ≤ N) : PostS T ((tkS T).stm r bk t) t r s n l q h (fX12_statement N rc 138 h) := by
  have hs := a.1.sg
  obtain ⟨id, hw, hwn⟩ := a.1.1.2.2.2.2.2.2.1
  have e9 := a.1.1.2.2.2.2.2.2.2.2.2.2
  unfold fX12_statement
  rw [if_pos (o_138 hs), r_isType a.1.1, Option.bind_some]
  dsimp only
  by_cases k : tkK T t = 2 ∨ tkK T t = 3 ∨ tkK T t = 4
  · have ht : (tkS T).tells t = true := (tells_iff T t).mpr (Or.inl k)
    obtain ⟨y, hy⟩ := ty_some ht
    rw [if_pos k, if_neg (show ¬ (1 : Int32) = 0 by decide), stm_eq, if_pos ht]
    exact tell_post a hN hy
  rw [if_neg k, if_pos rfl, g_138_5 hs, Option.bind_some, hw.code]
  by_cases k22 : tkK T t = 22
  · obtain ⟨h1, e1, a1, f1⟩ := a.1.ahead (N := N) hN k22
    have a12 : At2 T t r s n l q h1 := ⟨a1, f1.r25 a.2.1, a.2.2⟩
    rw [k22, if_pos (show wcode 22 = 2 by decide), g_138_9 hs, Option.bind_some, e9, if_neg (show ¬ (0 : Int32) ≤ -1 by decide), e1, Option.bind_some]
    dsimp only
    by_cases k22' : tkK T (t + 1) = 22
    · have ht : (tkS T).tells t = true := (tells_iff T t).mpr (Or.inr ⟨k22, k22'⟩)
      obtain ⟨y, hy⟩ := ty_some ht
      rw [if_pos k22', if_neg (show ¬ (1 : Int32) = 0 by decide), stm_eq, if_pos ht]
      exact PostS_back (tell_post a12 hN hy) f1.toS
    · have ht : ¬ (tkS T).tells t = true := fun z => by
        rcases (tells_iff T t).mp z with y | y
        · exact k y
        · exact k22' y.2
      rw [if_neg k22', if_pos rfl]
      exact PostS_back (stm91_post hB hE a12 hN ht) f1.toS
  · have ht : ¬ (tkS T).tells t = true := fun z => by
      rcases (tells_iff T t).mp z with y | y
      · exact k y
      · exact k22 y.1
    rw [if_neg (fun z => k22 (wcode_2 z))]
    exact stm91_post hB hE a hN ht
/-- what a block's loop may change: besides, the link of the statement ahead -/
def PL (o : Option Nat) (s n l q : Nat) : Nat → Nat → Prop := fun a k => PS s n l q a k ∨ (a = 161 ∧ o = some k)
def FrL (o : Option Nat) (s n l q : Nat) (h h' : pH) : Prop := Chg (PL o s n l q) h h' ∧ NmLe h h'
theorem FrS.toL {o : Option Nat} {s n l q : Nat} {h h' : pH} (f : FrS s n l q h h') : FrL o s n l q h h' := ⟨f.1.mono (fun _ _ z => Or.inl z), f.2⟩
theorem FrL.trans {o : Option Nat} {s n l q : Nat} {h h1 h2 : pH} (a : FrL o s n l q h h1) (b : FrL o s n l q h1 h2) : FrL o s n l q h h2 := ⟨a.1.trans b.1, a.2.trans b.2⟩
theorem FrL.none {s n l q : Nat} {h h' : pH} (f : FrL none s n l q h h') : FrS s n l q h h' := ⟨f.1.mono (fun _ _ z => z.elim id (fun z => by cases z.2)), f.2⟩
theorem FrL.next {o : Option Nat} {s s' n n' l l' q : Nat} {h h' : pH} (f : FrL (some s) s' n' l' q h h') (h0 : s < s') (h1 : n ≤ n') (h2 : l ≤ l') : FrL o s n l q h h' := ⟨f.1.mono (fun a k z => z.elim (fun z => Or.inl (z.mono (by omega) h1 h2 (Nat.le_refl _))) (fun z => Or.inl (Or.inr (Or.inr ⟨by omega, by have := Option.some.inj z.2; omega⟩)))), f.2⟩
theorem FrL.st {o : Option Nat} {s n l q : Nat} {h h' : pH} (f : FrL o s n l q h h') {a k : Nat} (ha : 151 ≤ a ∧ a ≤ 161) (hk : k < s) (ho : a = 161 → o ≠ some k) : rd h' a k = rd h a k := by
  refine f.1.2.2.1 _ _ (fun z => ?_)
  rcases z with ((z | z | z | z | z) | z | z) | z
  · rcases z with z | z | z <;> omega
  · omega
  · omega
  · omega
  · omega
  · omega
  · omega
  · exact ho z.1 z.2
theorem FrL.ag {o : Option Nat} {s n l q : Nat} {h h' : pH} (f : FrL o s n l q h h') (s0 n0 l0 : Nat) (ho : ∀ j, o = some j → j < s0) : Ag h h' s0 s n0 n l0 l := by
  have key : ∀ a k, (144 ≤ a ∧ a ≤ 148 ∧ k < n) ∨ (a = 149 ∧ k < l) → rd h' a k = rd h a k := by
    intro a k hc
    refine f.1.2.2.1 _ _ (fun z => ?_)
    rcases z with ((z | z | z | z | z) | z | z) | z
    · rcases z with z | z | z <;> omega
    · omega
    · omega
    · omega
    · omega
    · omega
    · omega
    · omega
  refine ⟨fun a k h1 h2 h3 h4 => f.st ⟨h1, h2⟩ h4 (fun _ z => by have := ho k z; omega), fun a m h1 h2 _ h4 => key a m (Or.inl ⟨h1, h2, h4⟩), fun m _ h4 => key 149 m (Or.inr ⟨rfl, h4⟩), f.2⟩
