/-! ===== STATEMENTS IN THE REFERENCE'S TABLES ===== -/
/-- how many statements, nodes, list places -/
def stB : Tr → Nat
  | .op (.op (.var k) (.op (.var _) (.var _))) (.op a b) => (if k < 80 then 1 else 0) + (if k = 80 ∨ k = 81 then stB a else 0) + stB b
  | _ => 0
def szB : Tr → Nat
  | .op (.op (.var k) (.op (.var _) (.var _))) (.op a b) => (if k = 80 ∨ k = 81 then szB a else sz a) + szB b
  | _ => 0
def lsB : Tr → Nat
  | .op (.op (.var k) (.op (.var _) (.var _))) (.op a b) => (if k = 80 ∨ k = 81 then lsB a else ls a) + lsB b
  | _ => 0
theorem stB_nd (k v w : Nat) (a b : Tr) : stB (nd k v w a b) = (if k < 80 then 1 else 0) + (if k = 80 ∨ k = 81 then stB a else 0) + stB b := rfl
theorem szB_nd (k v w : Nat) (a b : Tr) : szB (nd k v w a b) = (if k = 80 ∨ k = 81 then szB a else sz a) + szB b := rfl
theorem lsB_nd (k v w : Nat) (a b : Tr) : lsB (nd k v w a b) = (if k = 80 ∨ k = 81 then lsB a else ls a) + lsB b := rfl
theorem stB_nl : stB nl = 0 := rfl
theorem szB_nl : szB nl = 0 := rfl
theorem lsB_nl : lsB nl = 0 := rfl
/-- the first statement's number -/
def fsB (a : Tr) (s : Nat) : Int32 := if stB a = 0 then -1 else Int32.ofNat s
/-- the kind of statement -/
def sK (k : Nat) : Int32 := if k = 38 then 1 else if k = 39 then 2 else if k = 40 ∨ k = 41 then 3 else if k = 42 then 4 else if k = 58 then 5 else if k = 43 then 6 else if k = 52 then 7 else if k = 31 then 8 else 0
/-- a type as it is told -/
def tyR (T : Txt) (h : pH) (y : Nat) (x : Int32) : Prop := if y < 4 then x = Int32.ofNat y else ∃ v, NmIs T h (y - 4) v ∧ x = 10 + v
def stR (T : Txt) (h : pH) (k p v : Nat) (a : Tr) (s n : Nat) : Prop := rd h 151 s = sK k ∧ rd h 152 s = Int32.ofNat p ∧ rd h 153 s = Int32.ofNat n ∧ (k ≠ 31 → rd h 154 s = if sz a = 0 then -1 else Int32.ofNat (n + sz a - 1)) ∧ rd h 155 s = (if k = 31 then Int32.ofNat (n + sz a - 1) else if k = 38 then Int32.ofNat v else -1) ∧ ((k = 53 ∨ k = 37) → NmIs T h v (rd h 157 s))
def lnk (h : pH) (o : Option Nat) (x : Int32) : Prop := match o with
  | some o => rd h 161 o = x
  | none => True
def mkR (T : Txt) (h : pH) (k p v : Nat) (a : Tr) (o : Option Nat) (s n : Nat) : Prop := match o with
  | none => False
  | some o => (k = 80 → rd h 159 o = fsB a s) ∧ (k = 81 → rd h 160 o = fsB a s) ∧ (k = 82 → tyR T h p (rd h 156 o)) ∧ (k = 83 → rd h 154 o = Int32.ofNat (n + sz a - 1)) ∧ (k = 84 → tyR T h (4 + p) (rd h 156 o) ∧ NmIs T h v (rd h 157 o))
/-- the statements e stand from number s on, their nodes from n, their lists from l; o is the statement ahead -/
def RB (T : Txt) (h : pH) : Tr → Option Nat → Nat → Nat → Nat → Prop
  | .op (.op (.var k) (.op (.var p) (.var v))) (.op a b), o, s, n, l => if k < 80 then lnk h o (Int32.ofNat s) ∧ stR T h k p v a s n ∧ NE T h a n l ∧ RB T h b (some s) (s + 1) (n + sz a) (l + ls a) else mkR T h k p v a o s n ∧ if k = 80 ∨ k = 81 then RB T h a none s n l ∧ RB T h b o (s + stB a) (n + szB a) (l + lsB a) else NE T h a n l ∧ RB T h b o s (n + sz a) (l + ls a)
  | _, o, _, _, _ => lnk h o (-1)
theorem RB_nd (T : Txt) (h : pH) (k p v : Nat) (a b : Tr) (o : Option Nat) (s n l : Nat) : RB T h (nd k p v a b) o s n l = if k < 80 then lnk h o (Int32.ofNat s) ∧ stR T h k p v a s n ∧ NE T h a n l ∧ RB T h b (some s) (s + 1) (n + sz a) (l + ls a) else mkR T h k p v a o s n ∧ if k = 80 ∨ k = 81 then RB T h a none s n l ∧ RB T h b o (s + stB a) (n + szB a) (l + lsB a) else NE T h a n l ∧ RB T h b o s (n + sz a) (l + ls a) := rfl
theorem RB_nl (T : Txt) (h : pH) (o : Option Nat) (s n l : Nat) : RB T h nl o s n l = lnk h o (-1) := rfl
theorem RB_no {T : Txt} {h : pH} {e : Tr} (he : ∀ k v w a b, e ≠ nd k v w a b) (o : Option Nat) (s n l : Nat) : RB T h e o s n l = lnk h o (-1) := by
  unfold RB
  split
  · exact absurd rfl (he _ _ _ _ _)
  · rfl
/-- what reading statements may change -/
def PS (s n l q : Nat) : Nat → Nat → Prop := fun a k => PB n l q a k ∨ (a = 138 ∧ (k = 25 ∨ k = 57)) ∨ ((151 ≤ a ∧ a ≤ 161) ∧ s ≤ k)
theorem PS.mono {s n l q s' n' l' q' a k : Nat} (h : PS s' n' l' q' a k) (h0 : s ≤ s') (h1 : n ≤ n') (h2 : l ≤ l') (h3 : q ≤ q') : PS s n l q a k := by
  rcases h with h | h | h
  · exact Or.inl (h.mono h1 h2 h3)
  · exact Or.inr (Or.inl h)
  · exact Or.inr (Or.inr ⟨h.1, by omega⟩)
def FrS (s n l q : Nat) (h h' : pH) : Prop := Chg (PS s n l q) h h' ∧ NmLe h h'
theorem FrS.refl (s n l q : Nat) (h : pH) : FrS s n l q h h := ⟨Chg.refl _ _, NmLe.refl _⟩
theorem FrS.trans {s n l q : Nat} {h h1 h2 : pH} (a : FrS s n l q h h1) (b : FrS s n l q h1 h2) : FrS s n l q h h2 := ⟨a.1.trans b.1, a.2.trans b.2⟩
theorem FrS.mono {s n l q s' n' l' q' : Nat} {h h' : pH} (a : FrS s' n' l' q' h h') (h0 : s ≤ s') (h1 : n ≤ n') (h2 : l ≤ l') (h3 : q ≤ q') : FrS s n l q h h' := ⟨a.1.mono (fun _ _ z => z.mono h0 h1 h2 h3), a.2⟩
theorem Fr.toS {s n l q : Nat} {h h' : pH} (a : Fr n l q h h') : FrS s n l q h h' := ⟨a.1.mono (fun _ _ z => Or.inl z), a.2⟩
theorem Fr.st {n l q : Nat} {h h' : pH} (f : Fr n l q h h') {a k : Nat} (ha : 151 ≤ a ∧ a ≤ 161) : rd h' a k = rd h a k := by
  refine f.1.2.2.1 _ _ (fun z => ?_)
  rcases z with z | z | z | z | z
  · rcases z with z | z | z <;> omega
  · omega
  · omega
  · omega
  · omega
theorem Fr.f25 {n l q : Nat} {h h' : pH} (f : Fr n l q h h') : rd h' 138 25 = rd h 138 25 := by
  refine f.1.2.2.1 _ _ (fun z => ?_)
  rcases z with z | z | z | z | z
  · rcases z with z | z | z
    · exact absurd z.2 (by decide)
    · omega
    · omega
  · omega
  · omega
  · omega
  · omega
theorem FrS.st {s n l q : Nat} {h h' : pH} (f : FrS s n l q h h') {a k : Nat} (ha : 151 ≤ a ∧ a ≤ 161) (hk : k < s) : rd h' a k = rd h a k := by
  refine f.1.2.2.1 _ _ (fun z => ?_)
  rcases z with (z | z | z | z | z) | z | z
  · rcases z with z | z | z <;> omega
  · omega
  · omega
  · omega
  · omega
  · omega
  · omega
theorem FrS.node {s n l q m : Nat} {h h' : pH} (f : FrS s n l q h h') (hm : m < n) : rd h' 144 m = rd h 144 m ∧ rd h' 145 m = rd h 145 m ∧ rd h' 146 m = rd h 146 m ∧ rd h' 147 m = rd h 147 m ∧ rd h' 148 m = rd h 148 m := by
  have key : ∀ a, (a = 144 ∨ a = 145 ∨ a = 146 ∨ a = 147 ∨ a = 148) → rd h' a m = rd h a m := by
    intro a ha
    refine f.1.2.2.1 _ _ (fun z => ?_)
    rcases z with (z | z | z | z | z) | z | z
    · rcases z with z | z | z <;> omega
    · omega
    · omega
    · omega
    · omega
    · omega
    · omega
  exact ⟨key 144 (by simp), key 145 (by simp), key 146 (by simp), key 147 (by simp), key 148 (by simp)⟩
theorem FrS.list {s n l q m : Nat} {h h' : pH} (f : FrS s n l q h h') (hm : m < l) : rd h' 149 m = rd h 149 m := by
  refine f.1.2.2.1 _ _ (fun z => ?_)
  rcases z with (z | z | z | z | z) | z | z
  · rcases z with z | z | z <;> omega
  · omega
  · omega
  · omega
  · omega
  · omega
  · omega
/-- trees stay where statements are read -/
theorem NE.frS {T : Txt} {h h' : pH} {s' n' l' q' : Nat} (f : FrS s' n' l' q' h h') : ∀ (e : Tr) (n l : Nat), n + sz e ≤ n' → l + ls e ≤ l' → NE T h e n l → NE T h' e n l := by
  intro e
  induction e using Tr.rec2 with
  | h2 e he => intro n l _ _ _; exact NE_no he n l
  | h1 k v w a b iha ihb =>
    intro n l hn hl hq
    rw [sz_nd] at hn
    rw [ls_nd] at hl
    rw [NE_nd] at hq ⊢
    obtain ⟨q1, q2, q3⟩ := hq
    refine ⟨iha n l (by omega) (by omega) q1, ihb _ _ (by omega) (by omega) q2, ?_⟩
    rcases q3 with q3 | q3 | ⟨q3, q4, q5, q6, q7⟩
    · exact Or.inl q3
    · exact Or.inr (Or.inl q3)
    · by_cases hk : k = 50 ∨ k = 70
      · exact hk.elim Or.inl (fun z => Or.inr (Or.inl z))
      · rw [if_neg hk] at hn
        obtain ⟨g1, g2, g3, g4, g5⟩ := f.node (m := n + sz a + sz b) (by omega)
        refine Or.inr (Or.inr ⟨g1.trans q3, g2.trans q4, g3.trans q5, by rw [g4]; exact q6.le f.2, fun z => ?_⟩)
        obtain ⟨u1, u2, u3⟩ := q7 z
        rw [if_pos z] at hl
        refine ⟨g5.trans u1, u2, fun i j e => ?_⟩
        have hi : i < v := by
          rw [← u2]
          exact (List.getElem?_eq_some_iff.mp e).1
        rw [f.list (by omega)]
        exact u3 i j e
theorem tyR.le {T : Txt} {h h' : pH} {y : Nat} {x : Int32} (q : tyR T h y x) (le : NmLe h h') : tyR T h' y x := by
  unfold tyR at q ⊢
  split
  · rename_i z
    rw [if_pos z] at q
    exact q
  · rename_i z
    rw [if_neg z] at q
    obtain ⟨v, q1, q2⟩ := q
    exact ⟨v, q1.le le, q2⟩
theorem stR.keep {T : Txt} {h h' : pH} {k p v s n : Nat} {a : Tr} (q : stR T h k p v a s n) (g : ∀ b, b ∈ [151, 152, 153, 154, 155, 157] → rd h' b s = rd h b s) (le : NmLe h h') : stR T h' k p v a s n := by
  unfold stR at q ⊢
  rw [g 151 (by simp), g 152 (by simp), g 153 (by simp), g 154 (by simp), g 155 (by simp), g 157 (by simp)]
  exact ⟨q.1, q.2.1, q.2.2.1, q.2.2.2.1, q.2.2.2.2.1, fun z => (q.2.2.2.2.2 z).le le⟩
theorem lnk.keep {h h' : pH} {o : Option Nat} {x : Int32} (q : lnk h o x) (g : ∀ j, o = some j → rd h' 161 j = rd h 161 j) : lnk h' o x := by
  cases o with
  | none => trivial
  | some j => exact (g j rfl).trans q
theorem mkR.keep {T : Txt} {h h' : pH} {k p v s n : Nat} {a : Tr} {o : Option Nat} (q : mkR T h k p v a o s n) (g : ∀ j, o = some j → ∀ b, b ∈ [154, 156, 157, 159, 160] → rd h' b j = rd h b j) (le : NmLe h h') : mkR T h' k p v a o s n := by
  cases o with
  | none => exact q
  | some j =>
    have g := g j rfl
    unfold mkR at q ⊢
    dsimp only at q ⊢
    rw [g 154 (by simp), g 156 (by simp), g 157 (by simp), g 159 (by simp), g 160 (by simp)]
    exact ⟨q.1, q.2.1, fun z => (q.2.2.1 z).le le, q.2.2.2.1, fun z => ⟨(q.2.2.2.2 z).1.le le, (q.2.2.2.2 z).2.le le⟩⟩
/-- statements stay where later ones are read -/
theorem RB.frS {T : Txt} {h h' : pH} {s' n' l' q' : Nat} (f : FrS s' n' l' q' h h') : ∀ (e : Tr) (o : Option Nat) (s n l : Nat), s + stB e ≤ s' → n + szB e ≤ n' → l + lsB e ≤ l' → (∀ j, o = some j → j < s') → RB T h e o s n l → RB T h' e o s n l := by
  intro e
  induction e using Tr.rec2 with
  | h2 e he =>
    intro o s n l _ _ _ ho hq
    rw [RB_no he] at hq ⊢
    exact hq.keep (fun j hj => f.st (by omega) (ho j hj))
  | h1 k v w a b iha ihb =>
    intro o s n l hs hn hl ho hq
    rw [stB_nd] at hs
    rw [szB_nd] at hn
    rw [lsB_nd] at hl
    rw [RB_nd] at hq ⊢
    by_cases hk : k < 80
    · rw [if_pos hk, if_neg (by omega)] at hs
      rw [if_neg (by omega)] at hn hl
      rw [if_pos hk] at hq ⊢
      obtain ⟨q1, q2, q3, q4⟩ := hq
      exact ⟨q1.keep (fun j hj => f.st (by omega) (ho j hj)), q2.keep (fun b hb => f.st (by simp only [List.mem_cons, List.not_mem_nil, or_false] at hb; omega) (by omega)) f.2, NE.frS f a n l (by omega) (by omega) q3, ihb _ _ _ _ (by omega) (by omega) (by omega) (fun j hj => by have := Option.some.inj hj; omega) q4⟩
    · rw [if_neg hk] at hs hq ⊢
      obtain ⟨q1, q2⟩ := hq
      refine ⟨q1.keep (fun j hj b hb => f.st (by simp only [List.mem_cons, List.not_mem_nil, or_false] at hb; omega) (ho j hj)) f.2, ?_⟩
      by_cases h80 : k = 80 ∨ k = 81
      · rw [if_pos h80] at hs hn hl q2 ⊢
        exact ⟨iha _ _ _ _ (by omega) (by omega) (by omega) (fun j hj => by cases hj) q2.1, ihb _ _ _ _ (by omega) (by omega) (by omega) ho q2.2⟩
      · rw [if_neg h80] at hs hn hl q2 ⊢
        exact ⟨NE.frS f a n l (by omega) (by omega) q2.1, ihb _ _ _ _ (by omega) (by omega) (by omega) ho q2.2⟩
