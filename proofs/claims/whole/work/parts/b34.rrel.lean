/-! ===== THE REFERENCE'S MACHINE stands for the pure one ===== -/
def StV (g h : pH) : Prop := Sg h ∧ (∀ a k, 144 ≤ a → a ≤ 182 → rd h a k = rd g a k) ∧ ∀ k, 15 ≤ k → k ≤ 68 → rd h 138 k = rd g 138 k
/-- words and their marks -/
def RV (B : Nat → Nat) (L : List Nat) (x f : Int32) : Vl → Prop
  | .inl n => x = n ∧ f = 0
  | .inr none => x = -1 ∧ f = 1
  | .inr (some i) => x = Int32.ofNat (B i) ∧ f = 1 ∧ (i ∈ L ∨ i < 5)
theorem RV.mono {B B' : Nat → Nat} {L L' : List Nat} {x f : Int32} {v : Vl} (h : RV B L x f v) (hL : ∀ i, i ∈ L ∨ i < 5 → (i ∈ L' ∨ i < 5) ∧ B' i = B i) : RV B' L' x f v := by
  match v, h with
  | .inl n, h => exact h
  | .inr none, h => exact h
  | .inr (some i), ⟨h1, h2, h3⟩ => exact ⟨by rw [(hL i h3).2]; exact h1, h2, (hL i h3).1⟩
theorem RV.f01 {B : Nat → Nat} {L : List Nat} {x f : Int32} {v : Vl} (h : RV B L x f v) : f = 0 ∨ f = 1 := by
  match v, h with
  | .inl n, h => exact Or.inl h.2
  | .inr none, h => exact Or.inr h.2
  | .inr (some i), h => exact Or.inr h.2.1
def clV : Option Nat → Int32
  | some c => Int32.ofNat c
  | none => -1
def totL (hp : List Ob) : List Nat → Nat
  | [] => 0
  | i :: L => obL hp i + totL hp L
def LyR (hp : List Ob) (B O : Nat → Nat) : List Nat → Nat → Nat → Prop
  | [], _, _ => True
  | i :: L, n, a => B i = n ∧ O i = a ∧ i ∉ L ∧ 5 ≤ i ∧ i < hp.length ∧ LyR hp B O L (n + 1) (a + obL hp i)
def ObR (hp : List Ob) (B O : Nat → Nat) (L : List Nat) (h : pH) (i : Nat) : Prop := ∀ ob : Ob, hp[i]? = some ob → rd h 185 (B i) = clV ob.1 ∧ rd h 186 (B i) = Int32.ofNat (O i) ∧ rd h 187 (B i) = Int32.ofNat ob.2.length ∧ ∀ (j : Nat) (v : Vl), ob.2[j]? = some v → RV B L (rd h 191 (O i + j)) (rd h 192 (O i + j)) v
def HpR (hp : List Ob) (H : Nat) (B O : Nat → Nat) (L : List Nat) (h : pH) : Prop := (∀ i, i < 5 → B i = i ∧ O i = 0 ∧ ObR hp B O L h i) ∧ LyR hp B O L 5 0 ∧ rd h 138 82 = Int32.ofNat (5 + L.length) ∧ rd h 138 90 = Int32.ofNat (totL hp L) ∧ rd h 138 73 = Int32.ofNat (tot hp L) ∧ tot hp L ≤ H ∧ H ≤ 10000 ∧ rd h 138 72 = Int32.ofNat H ∧ ∀ i, i ∈ L → ObR hp B O L h i
def CnR (G : Gs) (h : pH) : Prop := rd h 138 75 = Int32.ofNat G.2.2.2.1.1 ∧ rd h 138 74 = Int32.ofNat G.2.2.2.1.2.1 ∧ rd h 138 76 = Int32.ofNat G.2.2.2.1.2.2 ∧ rd h 138 78 = Int32.ofNat G.2.2.1.length ∧ (∀ (j : Nat) (x : Int32), j < 500 → G.2.2.1[j]? = some x → rd h 183 j = x) ∧ rd h 138 80 = Int32.ofNat G.2.1.length ∧ G.2.1.length ≤ 300 ∧ ∀ (j : Nat) (x : Int32), G.2.1[j]? = some x → rd h 184 j = x
/-- the parts that the reference keeps -/
def um : List (Bool × Vl) → List Vl
  | [] => []
  | (true, _) :: o => um o
  | (false, v) :: o => v :: um o
theorem um_le : ∀ (o : List (Bool × Vl)), (um o).length ≤ o.length
  | [] => Nat.le_refl _
  | (true, _) :: o => by have := um_le o; show (um o).length ≤ o.length + 1; omega
  | (false, v) :: o => by have := um_le o; show (um o).length + 1 ≤ o.length + 1; omega
def tyE (pb : Nat) : List Si → List (Nat × Nat)
  | [] => []
  | (k, E, _) :: ks => if k = 4 then (pb, E.1.length) :: tyE pb ks else tyE pb ks
theorem tyE_len (pb : Nat) : ∀ (ks : List Si), (tyE pb ks).length = cty ks
  | [] => rfl
  | (k, E, b) :: ks => by
    show (if k = 4 then (pb, E.1.length) :: tyE pb ks else tyE pb ks).length = (if k = 4 then 1 else 0) + cty ks
    split
    · rw [List.length_cons, tyE_len pb ks]; omega
    · rw [tyE_len pb ks]; omega
def FrR (B : Nat → Nat) (L : List Nat) (h : pH) (n : Nat) (f : Fm) (lb pb : Nat) : Prop := rd h 193 n = Int32.ofNat (B f.1.2.2) ∧ (f.1.2.2 ∈ L ∨ f.1.2.2 < 5) ∧ rd h 194 n = Int32.ofNat lb ∧ rd h 195 n = Int32.ofNat f.2.1.length ∧ rd h 196 n = Int32.ofNat pb ∧ lb ≤ 899 * n ∧ pb ≤ 1999 * n ∧ f.2.1.length ≤ 899 ∧ f.2.2.1.length ≤ 1999 ∧ f.2.2.2.2.2.length ≤ 104 ∧ cty f.2.2.2.2.2 ≤ 51 ∧ (∀ (j : Nat) (v : Vl), f.2.1[j]? = some v → RV B L (rd h 197 (lb + j)) (rd h 198 (lb + j)) v) ∧ (∀ (j : Nat) (v : Vl), (um f.2.2.1)[j]? = some v → RV B L (rd h 199 (pb + (um f.2.2.1).length - 1 - j)) (rd h 200 (pb + (um f.2.2.1).length - 1 - j)) v) ∧ ∀ v, (true, v) ∈ f.2.2.1 → v = .inl 0 ∨ v = .inr (some f.1.2.2)
def LwR (B : Nat → Nat) (L : List Nat) (h : pH) : List Fm → Nat → Nat → List (Nat × Nat) → Prop
  | [], lt, pt, trs => lt = 0 ∧ pt = 0 ∧ trs = []
  | f :: fs, lt, pt, trs => ∃ lb pb tr', FrR B L h fs.length f lb pb ∧ lt = lb + f.2.1.length ∧ pt = pb + (um f.2.2.1).length ∧ trs = tyE pb f.2.2.2.2.2 ++ tr' ∧ LwR B L h fs lb pb tr'
/-- what is to be done, without what the reference does not tell -/
def nx : List Xi → List Xi
  | [] => []
  | .inl (k, v, w, z, l) :: xs => if k = 50 ∨ k = 51 then nx xs else .inl (k, v, w, z, l) :: nx xs
  | .inr x :: xs => .inr x :: nx xs
theorem nx_app : ∀ (a b : List Xi), nx (a ++ b) = nx a ++ nx b
  | [], b => rfl
  | .inl (k, v, w, z, l) :: a, b => by
    show (if k = 50 ∨ k = 51 then nx (a ++ b) else .inl (k, v, w, z, l) :: nx (a ++ b)) = (if k = 50 ∨ k = 51 then nx a else .inl (k, v, w, z, l) :: nx a) ++ nx b
    rw [nx_app a b]
    split <;> rfl
  | .inr x :: a, b => by
    show .inr x :: nx (a ++ b) = .inr x :: (nx a ++ nx b)
    rw [nx_app a b]
abbrev It : Type := Nat × Int32
/-- an expression that is to be unfolded; a piece that waits for its parts; a right side that waits -/
def ItX (P : Pgm) (S : Tks) (num : List Int32 → Nat) (c : Nat) (E : EnvV) (g : pH) (it : It) (ys : List Xi) : Prop := (it.1 = 0 ∧ ∃ e n l t, Ox S e ∧ P.te c E e = some [t] ∧ RXn P num c E g e n l ∧ it.2 = Int32.ofNat (n + sz e - 1) ∧ n + sz e ≤ 3200 ∧ l + ls e ≤ 3200 ∧ ys = nx (P.flX c E e)) ∨ (it.1 = 1 ∧ ∃ k v w z l j a, it.2 = Int32.ofNat j ∧ j < 3200 ∧ rd g 144 j = (P.rnK num c E k v w a l).1 ∧ rd g 147 j = (P.rnK num c E k v w a l).2 ∧ ownT a = z ∧ (k = 30 → rd g 182 j = Int32.ofNat v) ∧ (k = 9 ∨ k = 12 ∨ (14 ≤ k ∧ k ≤ 27) ∨ k = 30) ∧ ys = [.inl (k, v, w, z, l)]) ∨ (it.1 = 2 ∧ ∃ k b n l j, (k = 28 ∨ k = 29) ∧ it.2 = Int32.ofNat j ∧ j < 3200 ∧ rd g 144 j = (if k = 28 then 16 else 17) ∧ Ox S b ∧ P.te c E b = some [1] ∧ RXn P num c E g b n l ∧ rd g 146 j = Int32.ofNat (n + sz b - 1) ∧ n + sz b ≤ 3200 ∧ l + ls b ≤ 3200 ∧ ys = [.inr (k, b)])
def TdX (P : Pgm) (S : Tks) (num : List Int32 → Nat) (c : Nat) (E : EnvV) (g : pH) : List It → List Xi → Prop
  | [], zs => zs = []
  | it :: its, zs => ∃ ys ws, zs = ys ++ ws ∧ ItX P S num c E g it ys ∧ TdX P S num c E g its ws
/-- statements that are there, with room -/
def RTb (P : Pgm) (num : List Int32 → Nat) (c mt : Nat) (g : pH) (b : Tr) (E : EnvV) (o : Option Nat) (s n l : Nat) : Prop := RTc P num c mt g b E o s n l ∧ s + stB b ≤ 1600 ∧ n + szB b ≤ 3200 ∧ l + lsB b ≤ 3200
def KtI (P : Pgm) (num : List Int32 → Nat) (c mt : Nat) (g : pH) : Si → List It → Prop
  | (k, E, b, z), t => if k = 0 then ∃ o s n l, RTb P num c mt g b E o s n l ∧ t = [(3, fsB b s)]
    else if k = 1 then ∃ o s n l, RTb P num c mt g b E o s n l ∧ t = [(4, Int32.ofNat s)]
    else if k = 2 then t = [(5, Int32.ofNat E.1.length)]
    else if k = 3 then ∃ o s n l, RTb P num c mt g b E o s n l ∧ t = [(5, Int32.ofNat E.1.length), (0, rd g 154 s), (4, Int32.ofNat s)]
    else if k = 4 then ∃ o s n l, RTb P num c mt g b E o s n l ∧ t = [(7, Int32.ofNat s)]
    else if k = 5 then t = if z = true then [] else [(6, 0)]
    else False
def TdK (P : Pgm) (num : List Int32 → Nat) (c mt : Nat) (g : pH) : List Si → List It → Prop
  | [], t => t = []
  | s :: ks, t => ∃ t1 t2, t = t1 ++ t2 ∧ KtI P num c mt g s t1 ∧ TdK P num c mt g ks t2
def TdF (P : Pgm) (S : Tks) (num : List Int32 → Nat) (g : pH) : List Fm → List It → Prop
  | [], t => t = []
  | f :: fs, t => ∃ t1 t2 t3, t = t1 ++ (t2 ++ (8, Int32.ofNat f.1.2.1) :: t3) ∧ TdX P S num f.1.1 f.2.2.2.1 g t1 (nx f.2.2.2.2.1) ∧ t1.length ≤ 3000 ∧ TdK P num f.1.1 (P.mty f.1.2.1) g f.2.2.2.2.2 t2 ∧ TdF P S num g fs t3
/-- the reference's row of things to do -/
def TdH (t : List It) (h : pH) : Prop := rd h 138 103 = Int32.ofNat t.length ∧ ∀ (j : Nat) (it : It), t[j]? = some it → rd h 201 (t.length - 1 - j) = Int32.ofNat it.1 ∧ rd h 202 (t.length - 1 - j) = it.2
def TrH (t : List (Nat × Nat)) (h : pH) : Prop := rd h 138 106 = Int32.ofNat t.length ∧ ∀ (j : Nat) (x : Nat × Nat), t[j]? = some x → rd h 203 (t.length - 1 - j) = Int32.ofNat x.1 ∧ rd h 204 (t.length - 1 - j) = Int32.ofNat x.2
/-- it runs -/
def RBs (g : pH) (G : Gs) (B O : Nat → Nat) (L : List Nat) (h : pH) : Prop := StV g h ∧ CnR G h ∧ rd h 138 69 = 1 ∧ HpR G.1 G.2.2.2.2 B O L h
def RRn (P : Pgm) (S : Tks) (num : List Int32 → Nat) (g h : pH) (G : Gs) (fs : List Fm) (t : List It) : Prop := rd h 138 70 = 0 ∧ rd h 138 77 = 0 ∧ ∃ B O L lt pt trs, RBs g G B O L h ∧ LwR B L h fs lt pt trs ∧ rd h 138 100 = Int32.ofNat pt ∧ rd h 138 93 = Int32.ofNat fs.length ∧ TdF P S num g fs t ∧ TdH t h ∧ TrH trs h
def RRs (P : Pgm) (S : Tks) (num : List Int32 → Nat) (g h : pH) (σ : Mst) : Prop := match σ with
  | (G, .inl fs) => ∃ t, RRn P S num g h G fs t
  | (G, .inr (k, a)) => StV g h ∧ CnR G h ∧ rd h 138 69 = 1 ∧ rd h 138 70 = Int32.ofNat k ∧ rd h 138 77 = a ∧ rd h 138 103 = 0 ∧ rd h 138 93 = 0 ∧ 1 ≤ k ∧ k ≤ 4
