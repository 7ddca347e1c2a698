/-! ===== A TREE IN THE REFERENCE'S NODES ===== -/
theorem Tr.rec2 {P : Tr → Prop} (h1 : ∀ k v w a b, P a → P b → P (nd k v w a b)) (h2 : ∀ e, (∀ k v w a b, e ≠ nd k v w a b) → P e) : ∀ e : Tr, P e
  | .op (.op (.var k) (.op (.var v) (.var w))) (.op a b) => h1 k v w a b (Tr.rec2 h1 h2 a) (Tr.rec2 h1 h2 b)
  | .var _ => h2 _ (fun k v w a b h => by unfold nd at h; cases h)
  | .op (.var _) _ => h2 _ (fun k v w a b h => by unfold nd at h; cases h)
  | .op (.op (.op _ _) _) _ => h2 _ (fun k v w a b h => by unfold nd at h; cases h)
  | .op (.op (.var _) (.var _)) _ => h2 _ (fun k v w a b h => by unfold nd at h; cases h)
  | .op (.op (.var _) (.op (.op _ _) _)) _ => h2 _ (fun k v w a b h => by unfold nd at h; cases h)
  | .op (.op (.var _) (.op (.var _) (.op _ _))) _ => h2 _ (fun k v w a b h => by unfold nd at h; cases h)
  | .op (.op (.var _) (.op (.var _) (.var _))) (.var _) => h2 _ (fun k v w a b h => by unfold nd at h; cases h)
/-- how many nodes it takes -/
def sz : Tr → Nat
  | .op (.op (.var k) (.op (.var _) (.var _))) (.op a b) => sz a + sz b + (if k = 50 ∨ k = 70 then 0 else 1)
  | _ => 0
/-- how many places of the list of arguments -/
def ls : Tr → Nat
  | .op (.op (.var k) (.op (.var v) (.var _))) (.op a b) => ls a + ls b + (if k = 30 then v else 0)
  | _ => 0
theorem sz_nd (k v w : Nat) (a b : Tr) : sz (nd k v w a b) = sz a + sz b + (if k = 50 ∨ k = 70 then 0 else 1) := rfl
theorem ls_nd (k v w : Nat) (a b : Tr) : ls (nd k v w a b) = ls a + ls b + (if k = 30 then v else 0) := rfl
theorem sz_nl : sz nl = 0 := rfl
theorem ls_nl : ls nl = 0 := rfl
/-- is a call's first part this? -/
def ownT : Tr → Bool
  | .op (.op (.var k) (.op (.var _) (.var _))) (.op a _) => if k = 70 then ownT a else k == 50
  | _ => false
/-- the node of what a call is of -/
def hdR : Tr → Nat → Int32
  | .op (.op (.var k) (.op (.var _) (.var _))) (.op a b), n => if k = 70 then hdR a n else if k = 50 then -1 else Int32.ofNat (n + sz a + sz b)
  | _, _ => -1
/-- the nodes of its arguments -/
def argR : Tr → Nat → List Nat
  | .op (.op (.var k) (.op (.var _) (.var _))) (.op a b), n => if k = 70 then argR a n ++ [n + sz a + sz b - 1] else []
  | _, _ => []
theorem ownT_nd (k v w : Nat) (a b : Tr) : ownT (nd k v w a b) = if k = 70 then ownT a else k == 50 := rfl
theorem hdR_nd (k v w : Nat) (a b : Tr) (n : Nat) : hdR (nd k v w a b) n = if k = 70 then hdR a n else if k = 50 then -1 else Int32.ofNat (n + sz a + sz b) := rfl
theorem argR_nd (k v w : Nat) (a b : Tr) (n : Nat) : argR (nd k v w a b) n = if k = 70 then argR a n ++ [n + sz a + sz b - 1] else [] := rfl
/-- the kind of node, of a piece's kind -/
def nK (k : Nat) (a : Tr) : Int32 := if k = 1 then 0 else if k = 2 then 21 else if k = 3 then 1 else if k = 4 then 2 else if k = 5 then 3 else if k = 6 then 4 else if k = 13 then 5 else if k = 9 then 6 else if k = 12 then 7 else if k = 30 then (if ownT a then 9 else 8) else if k = 15 then 10 else if k = 16 then 11 else if k = 14 then 12 else if k = 17 then 13 else if k = 18 then 14 else if k = 28 then 16 else if k = 29 then 17 else 15
def sgC (k : Nat) : Int32 := if k = 19 then 42 else if k = 20 then 47 else if k = 21 then 37 else if k = 22 then 43 else if k = 23 then 45 else if k = 24 then 60 else if k = 25 then 316 else if k = 26 then 317 else if k = 27 then 289 else 0
/-- what a node tells -/
def ofOk (T : Txt) (h : pH) (k v w : Nat) (x : Int32) : Prop := if k = 1 ∨ k = 2 then x = Int32.ofNat v else if k = 6 ∨ k = 13 ∨ k = 9 ∨ k = 15 ∨ k = 16 ∨ k = 30 then NmIs T h w x else x = sgC k
/-- its first part's node, its second part's -/
def n1 (k : Nat) (a : Tr) (n : Nat) : Int32 := if k = 30 then hdR a n else if sz a = 0 then 0 else Int32.ofNat (n + sz a - 1)
def n2 (k : Nat) (a b : Tr) (n l : Nat) : Int32 := if k = 30 then Int32.ofNat (l + ls a) else if sz b = 0 then 0 else Int32.ofNat (n + sz a + sz b - 1)
def ndOk (T : Txt) (h : pH) (k v w : Nat) (a b : Tr) (n l : Nat) : Prop := k = 50 ∨ k = 70 ∨ (rd h 144 (n + sz a + sz b) = nK k a ∧ rd h 145 (n + sz a + sz b) = n1 k a n ∧ rd h 146 (n + sz a + sz b) = n2 k a b n l ∧ ofOk T h k v w (rd h 147 (n + sz a + sz b)) ∧ (k = 30 → rd h 148 (n + sz a + sz b) = Int32.ofNat v ∧ (argR a n).length = v ∧ ∀ i j, (argR a n)[i]? = some j → rd h 149 (l + ls a + i) = Int32.ofNat j))
/-- the tree e stands in the nodes from n on, in the list from l on -/
def NE (T : Txt) (h : pH) : Tr → Nat → Nat → Prop
  | .op (.op (.var k) (.op (.var v) (.var w))) (.op a b), n, l => NE T h a n l ∧ NE T h b (n + sz a) (l + ls a) ∧ ndOk T h k v w a b n l
  | _, _, _ => True
theorem NE_nd (T : Txt) (h : pH) (k v w : Nat) (a b : Tr) (n l : Nat) : NE T h (nd k v w a b) n l = (NE T h a n l ∧ NE T h b (n + sz a) (l + ls a) ∧ ndOk T h k v w a b n l) := rfl
theorem NE_nl (T : Txt) (h : pH) (n l : Nat) : NE T h nl n l := trivial
theorem NE_no {T : Txt} {h : pH} {e : Tr} (he : ∀ k v w a b, e ≠ nd k v w a b) (n l : Nat) : NE T h e n l := by
  unfold NE
  split
  · exact absurd rfl (he _ _ _ _ _)
  · trivial
theorem ofOk.le {T : Txt} {h h' : pH} {k v w : Nat} {x : Int32} (q : ofOk T h k v w x) (le : NmLe h h') : ofOk T h' k v w x := by
  unfold ofOk at q ⊢
  split
  · rename_i z
    rw [if_pos z] at q
    exact q
  · rename_i z
    rw [if_neg z] at q
    split
    · rename_i y
      rw [if_pos y] at q
      exact q.le le
    · rename_i y
      rw [if_neg y] at q
      exact q
theorem Fr.node {n l q m : Nat} {h h' : pH} (f : Fr n l q h h') (hm : m < n) : rd h' 144 m = rd h 144 m ∧ rd h' 145 m = rd h 145 m ∧ rd h' 146 m = rd h 146 m ∧ rd h' 147 m = rd h 147 m ∧ rd h' 148 m = rd h 148 m := by
  have key : ∀ a, (a = 144 ∨ a = 145 ∨ a = 146 ∨ a = 147 ∨ a = 148) → rd h' a m = rd h a m := by
    intro a ha
    refine f.1.2.2.1 _ _ (fun z => ?_)
    rcases z with z | z | z | z | z
    · rcases z with z | z | z <;> omega
    · omega
    · omega
    · omega
    · omega
  exact ⟨key 144 (by simp), key 145 (by simp), key 146 (by simp), key 147 (by simp), key 148 (by simp)⟩
theorem Fr.list {n l q m : Nat} {h h' : pH} (f : Fr n l q h h') (hm : m < l) : rd h' 149 m = rd h 149 m := by
  refine f.1.2.2.1 _ _ (fun z => ?_)
  rcases z with z | z | z | z | z
  · rcases z with z | z | z <;> omega
  · omega
  · omega
  · omega
  · omega
theorem Fr.hold {n l q m : Nat} {h h' : pH} (f : Fr n l q h h') (hm : m < q) : rd h' 150 m = rd h 150 m := by
  refine f.1.2.2.1 _ _ (fun z => ?_)
  rcases z with z | z | z | z | z
  · rcases z with z | z | z <;> omega
  · omega
  · omega
  · omega
  · omega
/-- what is read later leaves a tree as it stands -/
theorem NE.fr {T : Txt} {h h' : pH} {n' l' q' : Nat} (f : Fr n' l' q' h h') : ∀ (e : Tr) (n l : Nat), n + sz e ≤ n' → l + ls e ≤ l' → NE T h e n l → NE T h' e n l := by
  intro e
  induction e using Tr.rec2 with
  | h2 e he => intro n l _ _ _; exact NE_no he n l
  | h1 k v w a b iha ihb =>
    intro n l hn hl hq
    rw [sz_nd] at hn
    rw [ls_nd] at hl
    rw [NE_nd] at hq ⊢
    obtain ⟨q1, q2, q3⟩ := hq
    refine ⟨iha n l (by omega) (by omega) q1, ihb _ _ (by omega) (by omega) q2, ?_⟩
    rcases q3 with q3 | q3 | ⟨q3, q4, q5, q6, q7⟩
    · exact Or.inl q3
    · exact Or.inr (Or.inl q3)
    · by_cases hk : k = 50 ∨ k = 70
      · exact hk.elim Or.inl (fun z => Or.inr (Or.inl z))
      · rw [if_neg hk] at hn
        obtain ⟨g1, g2, g3, g4, g5⟩ := f.node (m := n + sz a + sz b) (by omega)
        refine Or.inr (Or.inr ⟨g1.trans q3, g2.trans q4, g3.trans q5, by rw [g4]; exact q6.le f.2, fun z => ?_⟩)
        obtain ⟨u1, u2, u3⟩ := q7 z
        rw [if_pos z] at hl
        refine ⟨g5.trans u1, u2, fun i j e => ?_⟩
        have hi : i < v := by
          rw [← u2]
          exact (List.getElem?_eq_some_iff.mp e).1
        rw [f.list (by omega)]
        exact u3 i j e
/-- what reading comes to, held against what the text means -/
def PostE (T : Txt) (p : Pr Tr) (t r n l q : Nat) (h : pH) (res : Option (Int32 × pH)) : Prop := match p with
  | Sum.inl (x, t') => ∃ h', res = some (Int32.ofNat (n + sz x - 1), h') ∧ At T t' r (n + sz x) (l + ls x) q h' ∧ NE T h' x n l ∧ Fr n l q h h' ∧ 1 ≤ sz x ∧ sz x + tkP T t ≤ tkP T t' ∧ ls x + tkP T t ≤ tkP T t'
  | Sum.inr w => ∃ v h' n' l', res = some (v, h') ∧ Er w n' l' q h' ∧ Fr n l q h h' ∧ n' + tkP T t ≤ n + w + 1 ∧ l' + tkP T t ≤ l + w ∧ tkP T t ≤ w ∧ n ≤ n' ∧ l ≤ l'
/-- the method mn reads what p says, with r more levels -/
def RunE (T : Txt) (N j mn : Nat) (p : Nat → Pr Tr) (r : Nat) : Prop := ∀ t n l q h, At T t r n l q h → PostE T (p t) t r n l q h (rcI (gX12_sum N j) mn [.ref 138] h)
theorem PostE_ok {T : Txt} {x : Tr} {t t' r n l q : Nat} {h : pH} {res : Option (Int32 × pH)} : PostE T (ok x t') t r n l q h res = ∃ h', res = some (Int32.ofNat (n + sz x - 1), h') ∧ At T t' r (n + sz x) (l + ls x) q h' ∧ NE T h' x n l ∧ Fr n l q h h' ∧ 1 ≤ sz x ∧ sz x + tkP T t ≤ tkP T t' ∧ ls x + tkP T t ≤ tkP T t' := rfl
theorem PostE_no {T : Txt} {t w r n l q : Nat} {h : pH} {res : Option (Int32 × pH)} : PostE T (no w) t r n l q h res = ∃ v h' n' l', res = some (v, h') ∧ Er w n' l' q h' ∧ Fr n l q h h' ∧ n' + tkP T t ≤ n + w + 1 ∧ l' + tkP T t ≤ l + w ∧ tkP T t ≤ w ∧ n ≤ n' ∧ l ≤ l' := rfl
