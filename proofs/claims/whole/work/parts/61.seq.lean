/-- two heaps agree on these statements, nodes and list places -/
def Ag (h h' : pH) (s s' n n' l l' : Nat) : Prop := (∀ a k, 151 ≤ a → a ≤ 161 → s ≤ k → k < s' → rd h' a k = rd h a k) ∧ (∀ a m, 144 ≤ a → a ≤ 148 → n ≤ m → m < n' → rd h' a m = rd h a m) ∧ (∀ m, l ≤ m → m < l' → rd h' 149 m = rd h 149 m) ∧ NmLe h h'
theorem Ag.sub {h h' : pH} {s s' n n' l l' s1 s2 n1 n2 l1 l2 : Nat} (g : Ag h h' s s' n n' l l') (a1 : s ≤ s1) (a2 : s2 ≤ s') (a3 : n ≤ n1) (a4 : n2 ≤ n') (a5 : l ≤ l1) (a6 : l2 ≤ l') : Ag h h' s1 s2 n1 n2 l1 l2 :=
  ⟨fun a k h1 h2 h3 h4 => g.1 a k h1 h2 (by omega) (by omega), fun a m h1 h2 h3 h4 => g.2.1 a m h1 h2 (by omega) (by omega), fun m h3 h4 => g.2.2.1 m (by omega) (by omega), g.2.2.2⟩
theorem Ag.trans {h h1 h2 : pH} {s s' n n' l l' : Nat} (g : Ag h h1 s s' n n' l l') (g2 : Ag h1 h2 s s' n n' l l') : Ag h h2 s s' n n' l l' :=
  ⟨fun a k h1 h2 h3 h4 => (g2.1 a k h1 h2 h3 h4).trans (g.1 a k h1 h2 h3 h4), fun a m h1 h2 h3 h4 => (g2.2.1 a m h1 h2 h3 h4).trans (g.2.1 a m h1 h2 h3 h4), fun m h3 h4 => (g2.2.2.1 m h3 h4).trans (g.2.2.1 m h3 h4), g.2.2.2.trans g2.2.2.2⟩
theorem FrS.ag {s n l q : Nat} {h h' : pH} (f : FrS s n l q h h') (s0 n0 l0 : Nat) : Ag h h' s0 s n0 n l0 l := by
  refine ⟨fun a k h1 h2 _ h4 => f.st ⟨h1, h2⟩ h4, fun a m h1 h2 _ h4 => ?_, fun m _ h4 => f.list h4, f.2⟩
  obtain ⟨g1, g2, g3, g4, g5⟩ := f.node h4
  have : a = 144 ∨ a = 145 ∨ a = 146 ∨ a = 147 ∨ a = 148 := by omega
  rcases this with z | z | z | z | z <;> rw [z] <;> assumption
theorem NE.keep {T : Txt} {h h' : pH} : ∀ (e : Tr) (n l s s' : Nat), Ag h h' s s' n (n + sz e) l (l + ls e) → NE T h e n l → NE T h' e n l := by
  intro e
  induction e using Tr.rec2 with
  | h2 e he => intro n l _ _ _ _; exact NE_no he n l
  | h1 k v w a b iha ihb =>
    intro n l s s' g hq
    rw [sz_nd, ls_nd] at g
    rw [NE_nd] at hq ⊢
    obtain ⟨q1, q2, q3⟩ := hq
    refine ⟨iha n l s s' (g.sub (by omega) (by omega) (by omega) (by omega) (by omega) (by omega)) q1, ihb _ _ s s' (g.sub (by omega) (by omega) (by omega) (by omega) (by omega) (by omega)) q2, ?_⟩
    rcases q3 with q3 | q3 | ⟨q3, q4, q5, q6, q7⟩
    · exact Or.inl q3
    · exact Or.inr (Or.inl q3)
    · by_cases hk : k = 50 ∨ k = 70
      · exact hk.elim Or.inl (fun z => Or.inr (Or.inl z))
      · rw [if_neg hk] at g
        have gm : ∀ a', 144 ≤ a' → a' ≤ 148 → rd h' a' (n + sz a + sz b) = rd h a' (n + sz a + sz b) := fun a' h1 h2 => g.2.1 a' _ h1 h2 (by omega) (by omega)
        refine Or.inr (Or.inr ⟨(gm 144 (by decide) (by decide)).trans q3, (gm 145 (by decide) (by decide)).trans q4, (gm 146 (by decide) (by decide)).trans q5, by rw [gm 147 (by decide) (by decide)]; exact q6.le g.2.2.2, fun z => ?_⟩)
        obtain ⟨u1, u2, u3⟩ := q7 z
        rw [if_pos z] at g
        refine ⟨(gm 148 (by decide) (by decide)).trans u1, u2, fun i j e => ?_⟩
        have hi : i < v := by
          rw [← u2]
          exact (List.getElem?_eq_some_iff.mp e).1
        rw [g.2.2.1 _ (by omega) (by omega)]
        exact u3 i j e
theorem RB.keep {T : Txt} {h h' : pH} : ∀ (e : Tr) (o : Option Nat) (s n l : Nat), Ag h h' s (s + stB e) n (n + szB e) l (l + lsB e) → (∀ j, o = some j → ∀ a, 151 ≤ a → a ≤ 161 → rd h' a j = rd h a j) → RB T h e o s n l → RB T h' e o s n l := by
  intro e
  induction e using Tr.rec2 with
  | h2 e he =>
    intro o s n l _ ho hq
    rw [RB_no he] at hq ⊢
    exact hq.keep (fun j hj => ho j hj 161 (by decide) (by decide))
  | h1 k v w a b iha ihb =>
    intro o s n l g ho hq
    rw [stB_nd, szB_nd, lsB_nd] at g
    rw [RB_nd] at hq ⊢
    by_cases hk : k < 80
    · rw [if_pos hk, if_neg (by omega), if_neg (by omega), if_neg (by omega)] at g
      rw [if_pos hk] at hq ⊢
      obtain ⟨q1, q2, q3, q4⟩ := hq
      exact ⟨q1.keep (fun j hj => ho j hj 161 (by decide) (by decide)), q2.keep (fun b hb => by
        simp only [List.mem_cons, List.not_mem_nil, or_false] at hb
        exact g.1 b s (by omega) (by omega) (by omega) (by omega)) g.2.2.2, NE.keep a n l s s (g.sub (by omega) (by omega) (by omega) (by omega) (by omega) (by omega)) q3, ihb _ _ _ _ (g.sub (by omega) (by omega) (by omega) (by omega) (by omega) (by omega)) (fun j hj a' h1 h2 => by
        have := Option.some.inj hj
        exact g.1 a' j h1 h2 (by omega) (by omega)) q4⟩
    · rw [if_neg hk] at g hq ⊢
      obtain ⟨q1, q2⟩ := hq
      refine ⟨q1.keep (fun j hj b hb => by
        simp only [List.mem_cons, List.not_mem_nil, or_false] at hb
        exact ho j hj b (by omega) (by omega)) g.2.2.2, ?_⟩
      by_cases h80 : k = 80 ∨ k = 81
      · rw [if_pos h80, if_pos h80, if_pos h80] at g
        rw [if_pos h80] at q2 ⊢
        exact ⟨iha _ _ _ _ (g.sub (by omega) (by omega) (by omega) (by omega) (by omega) (by omega)) (fun j hj => by cases hj) q2.1, ihb _ _ _ _ (g.sub (by omega) (by omega) (by omega) (by omega) (by omega) (by omega)) ho q2.2⟩
      · rw [if_neg h80, if_neg h80, if_neg h80] at g
        rw [if_neg h80] at q2 ⊢
        exact ⟨NE.keep a n l s s (g.sub (by omega) (by omega) (by omega) (by omega) (by omega) (by omega)) q2.1, ihb _ _ _ _ (g.sub (by omega) (by omega) (by omega) (by omega) (by omega) (by omega)) ho q2.2⟩
/-- the marks behind a statement o -/
def MR (T : Txt) (h : pH) : Tr → Nat → Nat → Nat → Nat → Prop
  | .op (.op (.var k) (.op (.var p) (.var v))) (.op a b), o, s, n, l => 80 ≤ k ∧ mkR T h k p v a (some o) s n ∧ if k = 80 ∨ k = 81 then RB T h a none s n l ∧ MR T h b o (s + stB a) (n + szB a) (l + lsB a) else NE T h a n l ∧ MR T h b o s (n + sz a) (l + ls a)
  | .var _, _, _, _, _ => True
  | _, _, _, _, _ => False
theorem MR_nd (T : Txt) (h : pH) (k p v : Nat) (a b : Tr) (o s n l : Nat) : MR T h (nd k p v a b) o s n l = (80 ≤ k ∧ mkR T h k p v a (some o) s n ∧ if k = 80 ∨ k = 81 then RB T h a none s n l ∧ MR T h b o (s + stB a) (n + szB a) (l + lsB a) else NE T h a n l ∧ MR T h b o s (n + sz a) (l + ls a)) := rfl
theorem MR_nl (T : Txt) (h : pH) (o s n l : Nat) : MR T h nl o s n l := trivial
/-- one statement -/
def SR (T : Txt) (h : pH) : Tr → Nat → Nat → Nat → Prop
  | .op (.op (.var k) (.op (.var p) (.var v))) (.op a b), s, n, l => k < 80 ∧ stR T h k p v a s n ∧ NE T h a n l ∧ MR T h b s (s + 1) (n + sz a) (l + ls a)
  | _, _, _, _ => False
theorem SR_nd (T : Txt) (h : pH) (k p v : Nat) (a b : Tr) (s n l : Nat) : SR T h (nd k p v a b) s n l = (k < 80 ∧ stR T h k p v a s n ∧ NE T h a n l ∧ MR T h b s (s + 1) (n + sz a) (l + ls a)) := rfl
theorem bSeq_nd (k p v : Nat) (a b z : Tr) : bSeq (nd k p v a b) z = nd k p v a (bSeq b z) := rfl
theorem bSeq_nl (z : Tr) : bSeq nl z = z := rfl
theorem stB_seq : ∀ (e z : Tr) (T : Txt) (h : pH) (o s n l : Nat), MR T h e o s n l → stB (bSeq e z) = stB e + stB z ∧ szB (bSeq e z) = szB e + szB z ∧ lsB (bSeq e z) = lsB e + lsB z := by
  intro e z
  induction e using Tr.rec2 with
  | h2 e he =>
    intro T h o s n l hq
    unfold MR at hq
    split at hq
    · exact absurd rfl (he _ _ _ _ _)
    · rename_i x
      exact ⟨by show stB z = 0 + stB z; omega, by show szB z = 0 + szB z; omega, by show lsB z = 0 + lsB z; omega⟩
    · exact hq.elim
  | h1 k v w a b iha ihb =>
    intro T h o s n l hq
    rw [MR_nd] at hq
    obtain ⟨q1, q2, q3⟩ := hq
    rw [bSeq_nd, stB_nd, szB_nd, lsB_nd, stB_nd, szB_nd, lsB_nd]
    by_cases h80 : k = 80 ∨ k = 81
    · rw [if_pos h80] at q3
      obtain ⟨e1, e2, e3⟩ := ihb T h o _ _ _ q3.2
      rw [e1, e2, e3]
      exact ⟨by omega, by omega, by omega⟩
    · rw [if_neg h80] at q3
      obtain ⟨e1, e2, e3⟩ := ihb T h o _ _ _ q3.2
      rw [e1, e2, e3]
      exact ⟨by omega, by omega, by omega⟩
/-- marks, and then more statements -/
theorem MR_seq {T : Txt} {h : pH} {z : Tr} : ∀ (e : Tr) (o s n l : Nat), MR T h e o s n l → RB T h z (some o) (s + stB e) (n + szB e) (l + lsB e) → RB T h (bSeq e z) (some o) s n l := by
  intro e
  induction e using Tr.rec2 with
  | h2 e he =>
    intro o s n l hq hz
    unfold MR at hq
    split at hq
    · exact absurd rfl (he _ _ _ _ _)
    · exact hz
    · exact hq.elim
  | h1 k v w a b iha ihb =>
    intro o s n l hq hz
    rw [MR_nd] at hq
    obtain ⟨q1, q2, q3⟩ := hq
    rw [stB_nd, szB_nd, lsB_nd] at hz
    rw [bSeq_nd, RB_nd, if_neg (by omega)]
    rw [if_neg (by omega)] at hz
    refine ⟨q2, ?_⟩
    by_cases h80 : k = 80 ∨ k = 81
    · rw [if_pos h80] at q3 ⊢
      rw [if_pos h80, if_pos h80, if_pos h80] at hz
      refine ⟨q3.1, ihb _ _ _ _ q3.2 ?_⟩
      rw [show s + stB a + stB b = s + (0 + stB a + stB b) by omega, show n + szB a + szB b = n + (szB a + szB b) by omega, show l + lsB a + lsB b = l + (lsB a + lsB b) by omega]
      exact hz
    · rw [if_neg h80] at q3 ⊢
      rw [if_neg h80, if_neg h80, if_neg h80] at hz
      refine ⟨q3.1, ihb _ _ _ _ q3.2 ?_⟩
      rw [show s + stB b = s + (0 + 0 + stB b) by omega, show n + sz a + szB b = n + (sz a + szB b) by omega, show l + ls a + lsB b = l + (ls a + lsB b) by omega]
      exact hz
theorem MR.keep {T : Txt} {h h' : pH} : ∀ (e : Tr) (o s n l : Nat), Ag h h' s (s + stB e) n (n + szB e) l (l + lsB e) → (∀ a, 151 ≤ a → a ≤ 160 → rd h' a o = rd h a o) → MR T h e o s n l → MR T h' e o s n l := by
  intro e
  induction e using Tr.rec2 with
  | h2 e he =>
    intro o s n l _ _ hq
    unfold MR at hq ⊢
    split at hq
    · exact absurd rfl (he _ _ _ _ _)
    · trivial
    · exact hq.elim
  | h1 k v w a b iha ihb =>
    intro o s n l g ho hq
    rw [stB_nd, szB_nd, lsB_nd] at g
    rw [MR_nd] at hq ⊢
    obtain ⟨q0, q1, q2⟩ := hq
    rw [if_neg (by omega)] at g
    refine ⟨q0, q1.keep (fun j hj b hb => by
      have := Option.some.inj hj
      subst this
      simp only [List.mem_cons, List.not_mem_nil, or_false] at hb
      exact ho b (by omega) (by omega)) g.2.2.2, ?_⟩
    by_cases h80 : k = 80 ∨ k = 81
    · rw [if_pos h80, if_pos h80, if_pos h80] at g
      rw [if_pos h80] at q2 ⊢
      exact ⟨RB.keep a none s n l (g.sub (by omega) (by omega) (by omega) (by omega) (by omega) (by omega)) (fun j hj => by cases hj) q2.1, ihb _ _ _ _ (g.sub (by omega) (by omega) (by omega) (by omega) (by omega) (by omega)) ho q2.2⟩
    · rw [if_neg h80, if_neg h80, if_neg h80] at g
      rw [if_neg h80] at q2 ⊢
      exact ⟨NE.keep a n l s s (g.sub (by omega) (by omega) (by omega) (by omega) (by omega) (by omega)) q2.1, ihb _ _ _ _ (g.sub (by omega) (by omega) (by omega) (by omega) (by omega) (by omega)) ho q2.2⟩
theorem SR_ex {T : Txt} {h : pH} {e : Tr} {s n l : Nat} : SR T h e s n l → ∃ k p v a b, e = nd k p v a b := by
  refine Tr.rec2 (P := fun e => SR T h e s n l → ∃ k p v a b, e = nd k p v a b) ?_ ?_ e
  · intro k p v a b _ _ _
    exact ⟨k, p, v, a, b, rfl⟩
  · intro e he hq
    exfalso
    unfold SR at hq
    split at hq
    · exact he _ _ _ _ _ rfl
    · exact hq
/-- one statement, and then more -/
theorem SR_seq {T : Txt} {h : pH} {e z : Tr} {o : Option Nat} {s n l : Nat} (hq : SR T h e s n l) (ho : lnk h o (Int32.ofNat s)) (hz : RB T h z (some s) (s + stB e) (n + szB e) (l + lsB e)) : RB T h (bSeq e z) o s n l := by
  obtain ⟨k, p, v, a, b, rfl⟩ := SR_ex hq
  rw [SR_nd] at hq
  obtain ⟨q1, q2, q3, q4⟩ := hq
  rw [stB_nd, szB_nd, lsB_nd, if_pos q1, if_neg (by omega), if_neg (by omega), if_neg (by omega)] at hz
  rw [bSeq_nd, RB_nd, if_pos q1]
  refine ⟨ho, q2, q3, MR_seq b s (s + 1) (n + sz a) (l + ls a) q4 ?_⟩
  rw [show s + 1 + stB b = s + (1 + 0 + stB b) by omega, show n + sz a + szB b = n + (sz a + szB b) by omega, show l + ls a + lsB b = l + (ls a + lsB b) by omega]
  exact hz
theorem SR_cnt {T : Txt} {h : pH} {e : Tr} {s n l : Nat} (z : Tr) (hq : SR T h e s n l) : stB (bSeq e z) = stB e + stB z ∧ szB (bSeq e z) = szB e + szB z ∧ lsB (bSeq e z) = lsB e + lsB z ∧ 1 ≤ stB e := by
  obtain ⟨k, p, v, a, b, rfl⟩ := SR_ex hq
  rw [SR_nd] at hq
  obtain ⟨q1, q2, q3, q4⟩ := hq
  obtain ⟨e1, e2, e3⟩ := stB_seq b z T h _ _ _ _ q4
  rw [bSeq_nd, stB_nd, szB_nd, lsB_nd, stB_nd, szB_nd, lsB_nd, e1, e2, e3, if_pos q1, if_neg (by omega), if_neg (by omega), if_neg (by omega)]
  exact ⟨by omega, by omega, by omega, by omega⟩
theorem SR.keep {T : Txt} {h h' : pH} {e : Tr} {s n l : Nat} (g : Ag h h' (s + 1) (s + stB e) n (n + szB e) l (l + lsB e)) (go : ∀ a, 151 ≤ a → a ≤ 160 → rd h' a s = rd h a s) (hq : SR T h e s n l) : SR T h' e s n l := by
  obtain ⟨k, p, v, a, b, rfl⟩ := SR_ex hq
  rw [SR_nd] at hq ⊢
  obtain ⟨q1, q2, q3, q4⟩ := hq
  rw [stB_nd, szB_nd, lsB_nd, if_pos q1, if_neg (by omega), if_neg (by omega), if_neg (by omega)] at g
  exact ⟨q1, q2.keep (fun b hb => by
    simp only [List.mem_cons, List.not_mem_nil, or_false] at hb
    exact go b (by omega) (by omega)) g.2.2.2, NE.keep a n l s s ⟨fun a' k' h1 h2 h3 h4 => absurd h4 (by omega), fun a' m h1 h2 h3 h4 => g.2.1 a' m h1 h2 h3 (by omega), fun m h3 h4 => g.2.2.1 m h3 (by omega), g.2.2.2⟩ q3, MR.keep b s (s + 1) _ _ (g.sub (by omega) (by omega) (by omega) (by omega) (by omega) (by omega)) go q4⟩
