/-! ===== THE CLASS' MACHINE stands for the pure one ===== -/
def StC (g h : pH) : Prop := Sg h ∧ ∀ a k, 17 ≤ a → a ≤ 125 → rd h a k = rd g a k
def clW : Option Nat → Int64
  | some c => (Int32.ofNat c).toInt64
  | none => (-1 : Int32).toInt64
def tot (hp : List Ob) : List Nat → Nat
  | [] => 0
  | i :: L => 2 + obL hp i + tot hp L
def Lay (hp : List Ob) (A : Nat → Nat) : List Nat → Nat → Prop
  | [], _ => True
  | i :: L, a => A i = a ∧ i ∉ L ∧ 5 ≤ i ∧ i < hp.length ∧ Lay hp A L (a + (2 + obL hp i))
def ObC (hp : List Ob) (A : Nat → Nat) (L : List Nat) (r : Nat) (h : pH) (i : Nat) : Prop := ∀ ob : Ob, hp[i]? = some ob → rdJ h r (A i) = clW ob.1 ∧ rdJ h r (A i + 1) = (Int32.ofNat ob.2.length).toInt64 ∧ ∀ (j : Nat) (v : Vl), ob.2[j]? = some v → Ww A L (rdJ h r (A i + 2 + j)) v
def FtC (h : pH) : Prop := ∀ i, i < 5 → rdJ h 130 (i + 1) = (Int32.ofNat i).toInt64 ∧ rdJ h 131 (i + 1) = (Int32.ofNat i).toInt64
def HpC (hp : List Ob) (H : Nat) (A : Nat → Nat) (L : List Nat) (h : pH) : Prop := (∀ i, i < 5 → A i = i + 1) ∧ Lay hp A L 6 ∧ rd h 129 2 = Int32.ofNat (6 + tot hp L) ∧ tot hp L ≤ H ∧ H ≤ 10000 ∧ rd h 129 3 = Int32.ofNat H ∧ ∀ i, i ∈ L → ObC hp A L (cR h) h i
def CnC (G : Gs) (h : pH) : Prop := rd h 128 15 = Int32.ofNat G.2.2.2.1.1 ∧ rd h 128 16 = Int32.ofNat G.2.2.2.1.2.1 ∧ rd h 128 17 = Int32.ofNat G.2.2.2.1.2.2 ∧ rd h 128 19 = Int32.ofNat G.2.2.1.length ∧ (∀ (j : Nat) (x : Int32), j < 500 → G.2.2.1[j]? = some x → rd h 137 j = x) ∧ ∃ q, rd h 126 1 = Int32.ofNat q ∧ q < 300 ∧ rd h 126 2 = Int32.ofNat G.2.1.length ∧ G.2.1.length ≤ 300 ∧ ∀ (j : Nat) (x : Int32), G.2.1[j]? = some x → rd h 127 ((q + j) % 300) = x
def FrK (A : Nat → Nat) (L : List Nat) (h g : pH) (n : Nat) (f : Fm) (b t M X pre : Nat) : Prop := rd h 134 n = Int32.ofNat b ∧ rd h 135 n = Int32.ofNat f.1.2.1 ∧ Ww A L (rdJ h 136 n) (.inr (some f.1.2.2)) ∧ 1 ≤ b ∧ b ≤ 3000 * n + 1 ∧ rd g 34 f.1.2.1 = Int32.ofNat M ∧ M < 1000 ∧ X ≤ 3001 ∧ t = b + M + f.2.2.1.length ∧ f.2.1.length ≤ M ∧ b + M + X + 1 ≤ pileN h ∧ (∀ (j : Nat) (v : Vl), f.2.1[j]? = some v → Ww A L (rdJ h (pileR h) (b + j)) v) ∧ (∀ (j : Nat) (x : Bool × Vl), f.2.2.1[j]? = some x → Ww A L (rdJ h (pileR h) (t - 1 - j)) x.2) ∧ XH f.2.2.2.2.1 (pre + f.2.2.1.length) X
def CdK (P : Pgm) (C : Cx) (U : Nat) (g : pH) (f : Fm) (M X pc : Nat) (o : Int32) : Prop := ∃ s, XC P C f.1.1 f.2.2.2.1 g o f.2.2.2.2.1 pc s ∧ KC P C f.1.1 (P.mty f.1.2.1) M X U g f.2.2.2.2.2 s o
def LwC (P : Pgm) (C : Cx) (U : Nat) (g : pH) (A : Nat → Nat) (L : List Nat) (h : pH) : List Fm → Nat → Nat → Prop
  | [], t, _ => t = 0
  | f :: fs, t, se => ∃ b M X q o, FrK A L h g fs.length f b t M X 1 ∧ Ww A L (rdJ h (pileR h) t) (.inr (some se)) ∧ (rd h 133 fs.length = Int32.ofNat q ∧ rd g 44 q = Int32.ofNat f.2.1.length ∧ rd g 45 q = o) ∧ CdK P C U g f M X (q + 1) o ∧ q < U ∧ LwC P C U g A L h fs (b - 1) f.1.2.2
def TpK (P : Pgm) (C : Cx) (U : Nat) (g : pH) (A : Nat → Nat) (L : List Nat) (h : pH) (f : Fm) (fs : List Fm) (t pc : Nat) : Prop := ∃ b M X o, FrK A L h g fs.length f b t M X 0 ∧ CdK P C U g f M X pc o ∧ LwC P C U g A L h fs (b - 1) f.1.2.2 ∧ rd h 128 6 = Int32.ofNat t ∧ rd h 128 11 = Int32.ofNat (fs.length + 1) ∧ rd h 128 12 = Int32.ofNat pc
/-- frames stay as they are -/
def PgA (n T : Nat) (h h' : pH) : Prop := (∀ b, sh h' b = sh h b) ∧ (∀ k, rd h' 134 k = rd h 134 k ∧ rd h' 135 k = rd h 135 k ∧ rdJ h' 136 k = rdJ h 136 k) ∧ (∀ k, k < n → rd h' 133 k = rd h 133 k) ∧ ∀ k, k < T → rdJ h' (pileR h) k = rdJ h (pileR h) k
theorem PgA.trans {n T : Nat} {h h1 h2 : pH} (q1 : PgA n T h h1) (q2 : PgA n T h1 h2) : PgA n T h h2 := ⟨fun b => (q2.1 b).trans (q1.1 b), fun k => ⟨(q2.2.1 k).1.trans (q1.2.1 k).1, (q2.2.1 k).2.1.trans (q1.2.1 k).2.1, (q2.2.1 k).2.2.trans (q1.2.1 k).2.2⟩, fun k hk => (q2.2.2.1 k hk).trans (q1.2.2.1 k hk), fun k hk => by rw [← q1.2.2.2 k hk, ← pileR_of q1.1]; exact q2.2.2.2 k hk⟩
theorem PgA.mono {n n' T T' : Nat} {h h' : pH} (q : PgA n T h h') (hn : n' ≤ n) (hT : T' ≤ T) : PgA n' T' h h' := ⟨q.1, q.2.1, fun k hk => q.2.2.1 k (by omega), fun k hk => q.2.2.2 k (by omega)⟩
theorem FrK.ag {A : Nat → Nat} {L : List Nat} {h h' g : pH} {n m T : Nat} {f : Fm} {b t M X pre : Nat} (q : PgA m T h h') (ht : t ≤ T) (k : FrK A L h g n f b t M X pre) : FrK A L h' g n f b t M X pre := by
  obtain ⟨k1, k2, k3, k4, k5, k6, k7, k8, k9, k10, k11, k12, k13, k14⟩ := k
  obtain ⟨q1, q2, q3, q4⟩ := q
  refine ⟨(q2 n).1.trans k1, (q2 n).2.1.trans k2, by rw [(q2 n).2.2]; exact k3, k4, k5, k6, k7, k8, k9, k10, by rw [pileN_of q1]; exact k11, ?_, ?_, k14⟩
  · intro j v hj
    have := (List.getElem?_eq_some_iff.mp hj).1
    rw [pileR_of q1, q4 _ (by omega)]
    exact k12 j v hj
  · intro j x hj
    have := (List.getElem?_eq_some_iff.mp hj).1
    rw [pileR_of q1, q4 _ (by omega)]
    exact k13 j x hj
theorem LwC.ag {P : Pgm} {C : Cx} {U : Nat} {g : pH} {A : Nat → Nat} {L : List Nat} {h h' : pH} {n T : Nat} (q : PgA n T h h') : ∀ {fs : List Fm} {t se : Nat}, fs.length ≤ n → t < T → LwC P C U g A L h fs t se → LwC P C U g A L h' fs t se
  | [], t, se, _, _, k => k
  | f :: fs, t, se, hn, ht, k => by
    rw [List.length_cons] at hn
    obtain ⟨b, M, X, z, o, k1, k2, k3, k4, k5, k6⟩ := k
    have hb : b - 1 < T := by have := k1.2.2.2.2.2.2.2.2.1; omega
    refine ⟨b, M, X, z, o, k1.ag q (by omega), ?_, ⟨(q.2.2.1 _ (by omega)).trans k3.1, k3.2⟩, k4, k5, LwC.ag q (by omega) hb k6⟩
    rw [pileR_of q.1, q.2.2.2 _ ht]
    exact k2
theorem FrK.mono {A A' : Nat → Nat} {L L' : List Nat} {h g : pH} {n : Nat} {f : Fm} {b t M X pre : Nat} (hL : ∀ i, i ∈ L ∨ i < 5 → (i ∈ L' ∨ i < 5) ∧ A' i = A i) (k : FrK A L h g n f b t M X pre) : FrK A' L' h g n f b t M X pre := by
  obtain ⟨k1, k2, k3, k4, k5, k6, k7, k8, k9, k10, k11, k12, k13, k14⟩ := k
  exact ⟨k1, k2, k3.mono hL, k4, k5, k6, k7, k8, k9, k10, k11, fun j v hj => (k12 j v hj).mono hL, fun j v hj => (k13 j v hj).mono hL, k14⟩
theorem LwC.mono {P : Pgm} {C : Cx} {U : Nat} {g : pH} {A A' : Nat → Nat} {L L' : List Nat} {h : pH} (hL : ∀ i, i ∈ L ∨ i < 5 → (i ∈ L' ∨ i < 5) ∧ A' i = A i) : ∀ {fs : List Fm} {t se : Nat}, LwC P C U g A L h fs t se → LwC P C U g A' L' h fs t se
  | [], t, se, k => k
  | f :: fs, t, se, k => by
    obtain ⟨b, M, X, z, o, k1, k2, k3, k4, k5, k6⟩ := k
    exact ⟨b, M, X, z, o, k1.mono hL, k2.mono hL, k3, k4, k5, LwC.mono hL k6⟩
/-- parts are taken -/
theorem FrK.drop {A : Nat → Nat} {L : List Nat} {h g : pH} {n : Nat} {i : Nat × Nat × Nat} {lo : List Vl} {ops : List (Bool × Vl)} {E E' : EnvV} {xs xs' : List Xi} {ks ks' : List Si} {b t M X pre pre' : Nat} (k : FrK A L h g n (i, lo, ops, E, xs, ks) b t M X pre) (d : Nat) (hd : d ≤ ops.length) (hx : XH xs' (pre' + (ops.length - d)) X) : FrK A L h g n (i, lo, ops.drop d, E', xs', ks') b (t - d) M X pre' := by
  obtain ⟨k1, k2, k3, k4, k5, k6, k7, k8, k9, k10, k11, k12, k13, k14⟩ := k
  have k9 : t = b + M + ops.length := k9
  refine ⟨k1, k2, k3, k4, k5, k6, k7, k8, ?_, k10, k11, k12, ?_, ?_⟩
  · show t - d = b + M + (ops.drop d).length
    rw [List.length_drop]; omega
  · intro j x hj
    have hj : (ops.drop d)[j]? = some x := hj
    rw [List.getElem?_drop] at hj
    have := (List.getElem?_eq_some_iff.mp hj).1
    rw [show t - d - 1 - j = t - 1 - (d + j) by omega]
    exact k13 (d + j) x hj
  · show XH xs' (pre' + (ops.drop d).length) X
    rw [List.length_drop]; exact hx
/-- a word is put on top -/
theorem FrK.push {A : Nat → Nat} {L : List Nat} {h g : pH} {n : Nat} {i : Nat × Nat × Nat} {lo : List Vl} {ops : List (Bool × Vl)} {E E' : EnvV} {xs xs' : List Xi} {ks ks' : List Si} {b t M X pre pre' : Nat} (k : FrK A L h g n (i, lo, ops, E, xs, ks) b t M X pre) {z : Bool} {v : Vl} (hv : Ww A L (rdJ h (pileR h) t) v) (hx : XH xs' (pre' + (ops.length + 1)) X) : FrK A L h g n (i, lo, (z, v) :: ops, E', xs', ks') b (t + 1) M X pre' := by
  obtain ⟨k1, k2, k3, k4, k5, k6, k7, k8, k9, k10, k11, k12, k13, k14⟩ := k
  have k9 : t = b + M + ops.length := k9
  refine ⟨k1, k2, k3, k4, k5, k6, k7, k8, ?_, k10, k11, k12, ?_, ?_⟩
  · show t + 1 = b + M + (ops.length + 1)
    omega
  · intro j x hj
    match j, hj with
    | 0, hj =>
      obtain rfl : (z, v) = x := Option.some.inj hj
      rw [show t + 1 - 1 - 0 = t by omega]
      exact hv
    | j + 1, hj =>
      have hj : ops[j]? = some x := hj
      have := (List.getElem?_eq_some_iff.mp hj).1
      rw [show t + 1 - 1 - (j + 1) = t - 1 - j by omega]
      exact k13 j x hj
  · exact hx
/-- the same frame, told otherwise -/
theorem FrK.same {A : Nat → Nat} {L : List Nat} {h g : pH} {n : Nat} {i : Nat × Nat × Nat} {lo : List Vl} {ops : List (Bool × Vl)} {E E' : EnvV} {xs xs' : List Xi} {ks ks' : List Si} {b t M X pre pre' : Nat} (k : FrK A L h g n (i, lo, ops, E, xs, ks) b t M X pre) (hx : XH xs' (pre' + ops.length) X) : FrK A L h g n (i, lo, ops, E', xs', ks') b t M X pre' := by
  obtain ⟨k1, k2, k3, k4, k5, k6, k7, k8, k9, k10, k11, k12, k13, k14⟩ := k
  exact ⟨k1, k2, k3, k4, k5, k6, k7, k8, k9, k10, k11, k12, k13, hx⟩
theorem FrK.take {A : Nat → Nat} {L : List Nat} {h g : pH} {n : Nat} {i : Nat × Nat × Nat} {lo : List Vl} {ops : List (Bool × Vl)} {E E' : EnvV} {xs xs' : List Xi} {ks ks' : List Si} {b t M X pre pre' : Nat} (k : FrK A L h g n (i, lo, ops, E, xs, ks) b t M X pre) (z : Nat) (hx : XH xs' (pre' + ops.length) X) : FrK A L h g n (i, lo.take z, ops, E', xs', ks') b t M X pre' := by
  obtain ⟨k1, k2, k3, k4, k5, k6, k7, k8, k9, k10, k11, k12, k13, k14⟩ := k
  refine ⟨k1, k2, k3, k4, k5, k6, k7, k8, k9, ?_, k11, ?_, k13, hx⟩
  · show (lo.take z).length ≤ M
    rw [List.length_take]
    have k10 : lo.length ≤ M := k10
    omega
  · intro j v hj
    have hj : (lo.take z)[j]? = some v := hj
    rw [List.getElem?_take] at hj
    split at hj
    · exact k12 j v hj
    · cases hj
/-- the word of a part -/
theorem FrK.op {A : Nat → Nat} {L : List Nat} {h g : pH} {n : Nat} {f : Fm} {b t M X pre : Nat} (k : FrK A L h g n f b t M X pre) {j : Nat} (hj : j < f.2.2.1.length) : Ww A L (rdJ h (pileR h) (t - 1 - j)) (opV f.2.2.1 j) := by
  have := k.2.2.2.2.2.2.2.2.2.2.2.2.1 j f.2.2.1[j] (List.getElem?_eq_getElem hj)
  unfold opV
  rw [List.getElem?_eq_getElem hj]
  exact this
theorem FrK.top {A : Nat → Nat} {L : List Nat} {h g : pH} {n : Nat} {f : Fm} {b t M X pre : Nat} (k : FrK A L h g n f b t M X pre) : t + pre < pileN h := by
  obtain ⟨k1, k2, k3, k4, k5, k6, k7, k8, k9, k10, k11, k12, k13, k14⟩ := k
  have := XH.le k14
  omega
theorem Ch.pg {T : Nat → Prop} {h h' : pH} (q : Ch T h h') {n t : Nat} (hT : ∀ k, T k → t ≤ k) (hs : Sg h) : PgA n t h h' := ⟨q.1, fun k => ⟨q.2.2.1 _ _ (by omega), q.2.2.1 _ _ (by omega), q.2.2.2 _ _ (by have := hs.apart; omega)⟩, fun k _ => q.2.2.1 _ _ (by omega), fun k hk => q.2.2.2 _ _ (fun z => by have := hT k z.2; omega)⟩
