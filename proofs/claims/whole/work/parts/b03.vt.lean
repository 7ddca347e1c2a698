/-! ===== THE MACHINE, typed: words, pieces ===== -/
/-- the word is of the type -/
def VT (P : Pgm) (hp : List Ob) (v : Vl) (t : Nat) : Prop := (t = 0 ∧ ∃ n, v = .inl n) ∨ (t = 1 ∧ (v = .inl 0 ∨ v = .inl 1)) ∨ (t = 3 ∧ v = .inl 0) ∨ ((t = 2 ∨ t = 4 ∨ 10 ≤ t) ∧ v = .inr none) ∨ (t = 2 ∧ ∃ i fs, v = .inr (some i) ∧ hp[i]? = some (none, fs)) ∨ (10 ≤ t ∧ ∃ i c fs, v = .inr (some i) ∧ hp[i]? = some (some c, fs) ∧ P.und c (t - 10) = true)
/-- the objects stay what they are -/
def HpL (hp hp' : List Ob) : Prop := ∀ (i : Nat) (ob : Ob), hp[i]? = some ob → ∃ fs : List Vl, hp'[i]? = some (ob.1, fs) ∧ fs.length = ob.2.length
theorem HpL.refl (hp : List Ob) : HpL hp hp := fun i ob h => ⟨ob.2, h, rfl⟩
theorem VT.mono {P : Pgm} {hp hp' : List Ob} (g : HpL hp hp') {v : Vl} {t : Nat} (h : VT P hp v t) : VT P hp' v t := by
  rcases h with h | h | h | h | ⟨h1, i, fs, h2, h3⟩ | ⟨h1, i, c, fs, h2, h3, h4⟩
  · exact Or.inl h
  · exact Or.inr (Or.inl h)
  · exact Or.inr (Or.inr (Or.inl h))
  · exact Or.inr (Or.inr (Or.inr (Or.inl h)))
  · obtain ⟨fs', g1, _⟩ := g i _ h3
    exact Or.inr (Or.inr (Or.inr (Or.inr (Or.inl ⟨h1, i, fs', h2, g1⟩))))
  · obtain ⟨fs', g1, _⟩ := g i _ h3
    exact Or.inr (Or.inr (Or.inr (Or.inr (Or.inr ⟨h1, i, c, fs', h2, g1, h4⟩))))
/-- the objects are as their classes tell -/
def HO (P : Pgm) (hp : List Ob) : Prop := (∀ i, i < 5 → hp[i]? = some (some i, [])) ∧ ∀ (i : Nat) (ob : Ob), hp[i]? = some ob → ob.2.length ≤ 11000 ∧ match ob.1 with
  | some c => c < P.n ∧ ob.2.length = P.nf c ∧ ∀ (j t : Nat) (v : Vl), (P.fts c)[j]? = some t → ob.2[j]? = some v → VT P hp v t
  | none => ∀ v, v ∈ ob.2 → ∃ n, v = .inl n
theorem VT.sub {P : Pgm} (ha : Acy P) {hp : List Ob} (ho : HO P hp) {v : Vl} {t u : Nat} (hs : P.sub t u = true) (h : VT P hp v t) : VT P hp v u := by
  unfold Pgm.sub at hs
  by_cases h4 : t = 4
  · rw [if_pos h4] at hs
    have hs := of_decide_eq_true hs
    have hv : v = .inr none := by
      subst h4
      rcases h with ⟨h, _⟩ | ⟨h, _⟩ | ⟨h, _⟩ | ⟨_, h⟩ | ⟨h, _⟩ | ⟨h, _⟩
      · omega
      · omega
      · omega
      · exact h
      · omega
      · omega
    exact Or.inr (Or.inr (Or.inr (Or.inl ⟨by omega, hv⟩)))
  · rw [if_neg h4] at hs
    rcases Bool.or_eq_true_iff.mp hs with hs | hs
    · obtain ⟨rfl, _⟩ := of_decide_eq_true hs
      exact h
    · obtain ⟨h1, h2⟩ := Bool.and_eq_true_iff.mp hs
      have h1 := of_decide_eq_true h1
      rcases h with ⟨h, _⟩ | ⟨h, _⟩ | ⟨h, _⟩ | ⟨_, h⟩ | ⟨h, _⟩ | ⟨h, i, c, fs, g1, g2, g3⟩
      · omega
      · omega
      · omega
      · exact Or.inr (Or.inr (Or.inr (Or.inl ⟨by omega, h⟩)))
      · omega
      · have hc := (ho.2 i _ g2).2.1
        exact Or.inr (Or.inr (Or.inr (Or.inr (Or.inr ⟨h1.2, i, c, fs, g1, g2, Pgm.und_trans ha hc g3 h2⟩))))
theorem VT.int {P : Pgm} {hp : List Ob} {v : Vl} (h : VT P hp v 0) : ∃ n, v = .inl n := by
  rcases h with ⟨_, h⟩ | ⟨h, _⟩ | ⟨h, _⟩ | ⟨h, _⟩ | ⟨h, _⟩ | ⟨h, _⟩
  · exact h
  all_goals omega
theorem VT.bool {P : Pgm} {hp : List Ob} {v : Vl} (h : VT P hp v 1) : v = .inl 0 ∨ v = .inl 1 := by
  rcases h with ⟨h, _⟩ | ⟨_, h⟩ | ⟨h, _⟩ | ⟨h, _⟩ | ⟨h, _⟩ | ⟨h, _⟩
  · omega
  · exact h
  all_goals omega
theorem VT.row {P : Pgm} {hp : List Ob} {v : Vl} (h : VT P hp v 2) : v = .inr none ∨ ∃ i fs, v = .inr (some i) ∧ hp[i]? = some (none, fs) := by
  rcases h with ⟨h, _⟩ | ⟨h, _⟩ | ⟨h, _⟩ | ⟨_, h⟩ | ⟨_, h⟩ | ⟨h, _⟩
  · omega
  · omega
  · omega
  · exact Or.inl h
  · exact Or.inr h
  · omega
theorem VT.obj {P : Pgm} {hp : List Ob} {v : Vl} {t : Nat} (ht : 10 ≤ t) (h : VT P hp v t) : v = .inr none ∨ ∃ i c fs, v = .inr (some i) ∧ hp[i]? = some (some c, fs) ∧ P.und c (t - 10) = true := by
  rcases h with ⟨h, _⟩ | ⟨h, _⟩ | ⟨h, _⟩ | ⟨_, h⟩ | ⟨h, _⟩ | ⟨_, h⟩
  · omega
  · omega
  · omega
  · exact Or.inl h
  · omega
  · exact Or.inr h
theorem VT.null {P : Pgm} {hp : List Ob} {v : Vl} (h : VT P hp v 4) : v = .inr none := by
  rcases h with ⟨h, _⟩ | ⟨h, _⟩ | ⟨h, _⟩ | ⟨_, h⟩ | ⟨h, _⟩ | ⟨h, _⟩
  · omega
  · omega
  · omega
  · exact h
  · omega
  · omega
theorem VT.inl_ {P : Pgm} {hp : List Ob} (n : Int32) : VT P hp (.inl n) 0 := Or.inl ⟨rfl, n, rfl⟩
theorem VT.bV {P : Pgm} {hp : List Ob} (b : Bool) : VT P hp (bV b) 1 := Or.inr (Or.inl ⟨rfl, by cases b; exact Or.inl rfl; exact Or.inr rfl⟩)
theorem VT.nul {P : Pgm} {hp : List Ob} {t : Nat} (h : t = 2 ∨ t = 4 ∨ 10 ≤ t) : VT P hp (.inr none) t := Or.inr (Or.inr (Or.inr (Or.inl ⟨h, rfl⟩)))
theorem VT.ob {P : Pgm} {hp : List Ob} {t i c : Nat} {fs : List Vl} (ht : 10 ≤ t) (h : hp[i]? = some (some c, fs)) (hu : P.und c (t - 10) = true) : VT P hp (.inr (some i)) t := Or.inr (Or.inr (Or.inr (Or.inr (Or.inr ⟨ht, i, c, fs, rfl, h, hu⟩))))
/-- what an object is told by -/
theorem VT.lt {P : Pgm} {hp : List Ob} {i t : Nat} (h : VT P hp (.inr (some i)) t) : i < hp.length := by
  rcases h with ⟨_, n, h⟩ | ⟨_, h | h⟩ | ⟨_, h⟩ | ⟨_, h⟩ | ⟨_, j, fs, h1, h2⟩ | ⟨_, j, c, fs, h1, h2, _⟩
  · cases h
  · cases h
  · cases h
  · cases h
  · cases h
  · have := Option.some.inj (Sum.inr.inj h1); rw [this]; exact (List.getElem?_eq_some_iff.mp h2).1
  · have := Option.some.inj (Sum.inr.inj h1); rw [this]; exact (List.getElem?_eq_some_iff.mp h2).1
/-- words of parts with their types -/
def OT (P : Pgm) (hp : List Ob) : List (Bool × Vl) → List (Bool × Nat) → Prop
  | [], [] => True
  | x :: xs, s :: ss => x.1 = s.1 ∧ VT P hp x.2 s.2 ∧ OT P hp xs ss
  | _, _ => False
theorem OT.mono {P : Pgm} {hp hp' : List Ob} (g : HpL hp hp') : ∀ {o : List (Bool × Vl)} {s : List (Bool × Nat)}, OT P hp o s → OT P hp' o s
  | [], [], _ => trivial
  | x :: xs, s :: ss, ⟨h1, h2, h3⟩ => ⟨h1, h2.mono g, OT.mono g h3⟩
  | [], _ :: _, h => h.elim
  | _ :: _, [], h => h.elim
theorem OT.len {P : Pgm} {hp : List Ob} : ∀ {o : List (Bool × Vl)} {s : List (Bool × Nat)}, OT P hp o s → o.length = s.length
  | [], [], _ => rfl
  | x :: xs, s :: ss, ⟨_, _, h3⟩ => by rw [List.length_cons, List.length_cons, OT.len h3]
  | [], _ :: _, h => h.elim
  | _ :: _, [], h => h.elim
theorem OT.app {P : Pgm} {hp : List Ob} : ∀ {a : List (Bool × Nat)} {o : List (Bool × Vl)} {s : List (Bool × Nat)}, OT P hp o (a ++ s) → OT P hp (o.take a.length) a ∧ OT P hp (o.drop a.length) s
  | [], o, s, h => ⟨trivial, h⟩
  | x :: a, [], s, h => h.elim
  | x :: a, y :: o, s, ⟨h1, h2, h3⟩ => by
    obtain ⟨k1, k2⟩ := OT.app (a := a) h3
    exact ⟨⟨h1, h2, k1⟩, k2⟩
theorem OT.get {P : Pgm} {hp : List Ob} : ∀ {o : List (Bool × Vl)} {s : List (Bool × Nat)} {j : Nat} {x : Bool × Nat}, OT P hp o s → s[j]? = some x → VT P hp (opV o j) x.2 ∧ ∃ y, o[j]? = some y ∧ y.1 = x.1 ∧ y.2 = opV o j
  | [], [], j, x, _, h => by cases h
  | y :: o, t :: s, 0, x, ⟨h1, h2, h3⟩, h => by
    obtain rfl : t = x := Option.some.inj h
    exact ⟨h2, y, rfl, h1, rfl⟩
  | y :: o, t :: s, j + 1, x, ⟨h1, h2, h3⟩, h => by
    rw [List.getElem?_cons_succ] at h
    have := OT.get h3 h
    unfold opV at this ⊢
    rw [List.getElem?_cons_succ]
    exact this
  | [], _ :: _, _, _, h, _ => h.elim
  | _ :: _, [], _, _, h, _ => h.elim
def mk3 (t : Nat) : Bool × Nat := (decide (t = 3), t)
/-- what a piece takes -/
def popT (k : Nat) (s : Bool) (l : List Nat) : List (Bool × Nat) := if k = 30 then (match l with
    | [] => []
    | r :: as => as.reverse.map mk3 ++ [(s, r)]) else l.reverse.map mk3
theorem popT_len (k : Nat) (s : Bool) (l : List Nat) : (popT k s l).length = l.length := by
  unfold popT
  split
  · cases l with
    | nil => rfl
    | cons r as =>
      show (as.reverse.map mk3 ++ [(s, r)]).length = _
      rw [List.length_append, List.length_map, List.length_reverse]
      rfl
  · rw [List.length_map, List.length_reverse]
def kOk (k v : Nat) (l : List Nat) : Prop := ((1 ≤ k ∧ k ≤ 6) ∨ k = 9 ∨ (12 ≤ k ∧ k ≤ 27) ∨ k = 30) ∧ l.length = arK k v ∧ (k = 2 → v ≤ 1)
/-- pieces lead from these types to those -/
def XT (P : Pgm) (S : Tks) (c : Nat) (E : EnvV) : List Xi → List (Bool × Nat) → List (Bool × Nat) → Prop
  | [], a, b => a = b
  | .inl (k, v, w, s, l) :: xs, a, b => if k = 50 then XT P S c E xs ((true, 10 + c) :: a) b else if k = 51 then XT P S c E xs a b else ∃ a0 t, a = popT k s l ++ a0 ∧ P.opT c E k w l = some [t] ∧ kOk k v l ∧ XT P S c E xs (mk3 t :: a0) b
  | .inr (k, e) :: xs, a, b => ∃ a0, a = mk3 1 :: a0 ∧ (k = 28 ∨ k = 29) ∧ Ox S e ∧ P.te c E e = some [1] ∧ XT P S c E xs a b
theorem XT_p {P : Pgm} {S : Tks} {c k v w : Nat} {E : EnvV} {s : Bool} {l : List Nat} {xs : List Xi} {a b : List (Bool × Nat)} (h1 : k ≠ 50) (h2 : k ≠ 51) : XT P S c E (.inl (k, v, w, s, l) :: xs) a b = ∃ a0 t, a = popT k s l ++ a0 ∧ P.opT c E k w l = some [t] ∧ kOk k v l ∧ XT P S c E xs (mk3 t :: a0) b := by
  show (if k = 50 then _ else if k = 51 then _ else _) = _
  rw [if_neg h1, if_neg h2]
theorem XT_self (P : Pgm) (S : Tks) (c v w : Nat) (E : EnvV) (s : Bool) (l : List Nat) (xs : List Xi) (a b : List (Bool × Nat)) : XT P S c E (.inl (50, v, w, s, l) :: xs) a b = XT P S c E xs ((true, 10 + c) :: a) b := rfl
theorem XT_mk (P : Pgm) (S : Tks) (c v w : Nat) (E : EnvV) (s : Bool) (l : List Nat) (xs : List Xi) (a b : List (Bool × Nat)) : XT P S c E (.inl (51, v, w, s, l) :: xs) a b = XT P S c E xs a b := rfl
theorem te_getD {P : Pgm} {c : Nat} {E : EnvV} {e : Tr} {r : List Nat} (h : P.te c E e = some r) : (P.te c E e).getD [] = r := by rw [h]; rfl
theorem popT_1 {k : Nat} (hk : k ≠ 30) (s : Bool) (t : Nat) : popT k s [t] = [mk3 t] := by unfold popT; rw [if_neg hk]; rfl
theorem popT_2 {k : Nat} (hk : k ≠ 30) (s : Bool) (t u : Nat) : popT k s [t, u] = [mk3 u, mk3 t] := by unfold popT; rw [if_neg hk]; rfl
theorem popT_0 {k : Nat} (hk : k ≠ 30) (s : Bool) : popT k s [] = [] := by unfold popT; rw [if_neg hk]; rfl
theorem callT_10 {P : Pgm} {w : List Int32} {r : Nat} {l x : List Nat} (h : P.callT w (r :: l) = some x) : 10 ≤ r := by
  unfold Pgm.callT at h
  dsimp only at h
  split at h
  · cases h
  · omega
theorem opT_30 (P : Pgm) (c : Nat) (E : EnvV) (w : Nat) (l : List Nat) : P.opT c E 30 w l = P.callT (P.1 w) l := rfl
/-- what a call is of, and its arguments -/
theorem XT.spine {P : Pgm} {S : Tks} {c : Nat} {E : EnvV} {Q : Tr → Prop} (hQ : ∀ e, Q e → ∀ t, P.te c E e = some [t] → ∀ (xs : List Xi) (a b : List (Bool × Nat)), XT P S c E xs (mk3 t :: a) b → XT P S c E (P.flX c E e ++ xs) a b) (h1 : ∀ e, Q e → ∀ l, P.te c E e = some l → ∃ t, l = [t]) (h0 : ∀ e, Q e → ownT e = false) : ∀ (m : Nat) (s : Tr) (l : List Nat), OkSp Q m s → P.te c E s = some l → l.length = m + 1 ∧ ∀ r as, l = r :: as → 10 ≤ r → ∀ (xs : List Xi) (a b : List (Bool × Nat)), XT P S c E xs (as.reverse.map mk3 ++ (ownT s, r) :: a) b → XT P S c E (P.flX c E s ++ xs) a b
  | 0, s, l, hs, ht => by
    rcases hs with rfl | hs
    · have ht : some [10 + c] = some l := ht
      obtain rfl := Option.some.inj ht
      refine ⟨rfl, fun r as hl _ xs a b hx => ?_⟩
      obtain ⟨rfl, rfl⟩ := List.cons.inj hl
      exact hx
    · obtain ⟨t, rfl⟩ := h1 s hs l ht
      refine ⟨rfl, fun r as hl h10 xs a b hx => ?_⟩
      obtain ⟨rfl, rfl⟩ := List.cons.inj hl
      refine hQ s hs _ ht xs a b ?_
      rw [h0 s hs] at hx
      unfold mk3
      rw [decide_eq_false (by omega)]
      exact hx
  | m + 1, s, l, ⟨a', b', hs, ha, hb⟩, ht => by
    subst hs
    have ht : (P.te c E a').bind (fun x => (P.te c E b').bind fun y => some (x ++ y)) = some l := ht
    obtain ⟨x, hx, ht⟩ := Option.bind_eq_some_iff.mp ht
    obtain ⟨y, hy, ht⟩ := Option.bind_eq_some_iff.mp ht
    obtain rfl := Option.some.inj ht
    obtain ⟨t, rfl⟩ := h1 b' hb y hy
    obtain ⟨i1, i2⟩ := XT.spine hQ h1 h0 m a' x ha hx
    refine ⟨by rw [List.length_append, i1]; rfl, fun r as hl h10 xs a b hX => ?_⟩
    have hfl : P.flX c E (eArg a' b') ++ xs = P.flX c E a' ++ (P.flX c E b' ++ xs) := by
      show (P.flX c E a' ++ P.flX c E b') ++ xs = _
      rw [List.append_assoc]
    rw [hfl]
    match x, i1, hl with
    | r' :: as', i1, hl =>
      obtain ⟨rfl, rfl⟩ := List.cons.inj hl
      refine i2 r' as' rfl h10 _ a b (hQ b' hb t hy xs _ b ?_)
      have hX : XT P S c E xs (List.map mk3 (as' ++ [t]).reverse ++ (ownT (eArg a' b'), r') :: a) b := hX
      rw [List.reverse_append] at hX
      exact hX
theorem OkE.own {S : Tks} {n : Nat} {e : Tr} (h : OkE S n e) : ownT e = false := by
  cases n with
  | zero => exact h.elim
  | succ n =>
    have key : ∀ k v w a b, k ≠ 70 → k ≠ 50 → ownT (nd k v w a b) = false := fun k v w a b h1 h2 => by
      rw [ownT_nd, if_neg h1]
      exact beq_eq_false_iff_ne.mpr h2
    rcases h with ⟨k, v, rfl, h2⟩ | ⟨k, w, rfl, h2, h3⟩ | ⟨k, a, rfl, h2, h3⟩ | ⟨k, w, a, rfl, h2, h3, h4⟩ | ⟨k, a, b, rfl, h2, h3, h4⟩ | ⟨m, w, s, rfl, h2, h3⟩
    all_goals exact key _ _ _ _ _ (by omega) (by omega)
theorem XT.fl {P : Pgm} {S : Tks} {c : Nat} {E : EnvV} : ∀ (n : Nat) (e : Tr), OkE S n e → ∀ t, P.te c E e = some [t] → ∀ (xs : List Xi) (a b : List (Bool × Nat)), XT P S c E xs (mk3 t :: a) b → XT P S c E (P.flX c E e ++ xs) a b
  | 0, e, h, t, ht, xs, a, b, hx => h.elim
  | n + 1, e, h, t, ht, xs, a, b, hx => by
    have one : ∀ x, OkE S n x → ∀ l, P.te c E x = some l → ∃ t, l = [t] := fun x hx l hl => by
      obtain ⟨t, h1, _⟩ := Ox.te_one (S := S) ⟨n, hx⟩ hl
      exact ⟨t, h1⟩
    have IH := fun x hx t ht xs a b => XT.fl (P := P) (S := S) (c := c) (E := E) n x hx t ht xs a b
    -- one part
    have un : ∀ k v w x, k ≠ 28 → k ≠ 29 → k ≠ 70 → k ≠ 50 → k ≠ 51 → k ≠ 30 → OkE S n x → (∀ l, l.length = 1 → kOk k v l) → P.te c E (nd k v w x nl) = some [t] → XT P S c E (P.flX c E (nd k v w x nl) ++ xs) a b := by
      intro k v w x k1 k2 k3 k4 k5 k6 hx' hk ht
      rw [Pgm.te_nd] at ht
      obtain ⟨y, hy, ht⟩ := Option.bind_eq_some_iff.mp ht
      obtain ⟨u, rfl⟩ := one x hx' y hy
      have ht : P.opT c E k w ([u] ++ []) = some [t] := ht
      rw [Pgm.flX_nd, if_neg (by omega), if_neg k3, te_getD hy, List.append_assoc]
      refine IH x hx' u hy _ a b ?_
      show XT P S c E (.inl (k, v, w, ownT x, [u] ++ []) :: xs) _ b
      rw [XT_p k4 k5]
      exact ⟨a, t, by rw [List.append_nil, popT_1 k6]; rfl, ht, hk _ rfl, hx⟩
    have two : ∀ k x y, k ≠ 28 → k ≠ 29 → k ≠ 70 → k ≠ 50 → k ≠ 51 → k ≠ 30 → OkE S n x → OkE S n y → (∀ l, l.length = 2 → kOk k 0 l) → P.te c E (nd k 0 0 x y) = some [t] → XT P S c E (P.flX c E (nd k 0 0 x y) ++ xs) a b := by
      intro k x y k1 k2 k3 k4 k5 k6 hx' hy' hk ht
      rw [Pgm.te_nd] at ht
      obtain ⟨p, hp, ht⟩ := Option.bind_eq_some_iff.mp ht
      obtain ⟨q, hq, ht⟩ := Option.bind_eq_some_iff.mp ht
      obtain ⟨u, rfl⟩ := one x hx' p hp
      obtain ⟨u', rfl⟩ := one y hy' q hq
      rw [Pgm.flX_nd, if_neg (by omega), if_neg k3, te_getD hp, te_getD hq, List.append_assoc, List.append_assoc]
      refine IH x hx' u hp _ a b (IH y hy' u' hq _ _ b ?_)
      show XT P S c E (.inl (k, 0, 0, ownT x, [u] ++ [u']) :: xs) _ b
      rw [XT_p k4 k5]
      exact ⟨a, t, by rw [show [u] ++ [u'] = [u, u'] from rfl, popT_2 k6]; rfl, ht, hk _ rfl, hx⟩
    rcases h with ⟨k, v, rfl, h2⟩ | ⟨k, w, rfl, h2, h3⟩ | ⟨k, x, rfl, h2, h3⟩ | ⟨k, w, x, rfl, h2, h3, h4⟩ | ⟨k, x, y, rfl, h2, h3, h4⟩ | ⟨m, w, s, rfl, h2, h3⟩
    · have hk : kOk k v [] := ⟨by omega, by unfold arK; rw [if_neg (by omega), if_neg (by omega), if_neg (by omega)]; rfl, fun z => by omega⟩
      have ht : P.opT c E k 0 ([] ++ []) = some [t] := ht
      show XT P S c E (P.flX c E (nd k v 0 nl nl) ++ xs) a b
      rw [Pgm.flX_nd, if_neg (by omega), if_neg (by omega)]
      show XT P S c E (.inl (k, v, 0, ownT nl, [] ++ []) :: xs) a b
      rw [XT_p (by omega) (by omega)]
      exact ⟨a, t, by rw [List.append_nil, popT_0 (by omega)]; rfl, ht, hk, hx⟩
    · have hk : kOk k 0 [] := ⟨by omega, by unfold arK; rw [if_neg (by omega), if_neg (by omega), if_neg (by omega)]; rfl, fun z => by omega⟩
      have ht : P.opT c E k w ([] ++ []) = some [t] := ht
      show XT P S c E (P.flX c E (nd k 0 w nl nl) ++ xs) a b
      rw [Pgm.flX_nd, if_neg (by omega), if_neg (by omega)]
      show XT P S c E (.inl (k, 0, w, ownT nl, [] ++ []) :: xs) a b
      rw [XT_p (by omega) (by omega)]
      exact ⟨a, t, by rw [List.append_nil, popT_0 (by omega)]; rfl, ht, hk, hx⟩
    · exact un k 0 0 x (by omega) (by omega) (by omega) (by omega) (by omega) (by omega) h3 (fun l hl => ⟨by omega, by unfold arK; rw [if_neg (by omega), if_neg (by omega), if_pos (by omega)]; exact hl, fun z => by omega⟩) ht
    · exact un k 0 w x (by omega) (by omega) (by omega) (by omega) (by omega) (by omega) h4 (fun l hl => ⟨by omega, by unfold arK; rw [if_neg (by omega), if_neg (by omega), if_pos (by omega)]; exact hl, fun z => by omega⟩) ht
    · by_cases hk : k = 28 ∨ k = 29
      · have ht' : P.te c E (nd k 0 0 x y) = some [t] := ht
        rw [Pgm.te_nd] at ht'
        obtain ⟨p, hp, ht'⟩ := Option.bind_eq_some_iff.mp ht'
        obtain ⟨q, hq, ht'⟩ := Option.bind_eq_some_iff.mp ht'
        obtain ⟨u, rfl⟩ := one x h3 p hp
        obtain ⟨u', rfl⟩ := one y h4 q hq
        have hop : P.opT c E k 0 ([u] ++ [u']) = eqT [u, u'] [1, 1] 1 := by
          rcases hk with rfl | rfl <;> rfl
        rw [hop] at ht'
        obtain ⟨r1, r2⟩ := eqT_one ht'
        obtain ⟨r3, r4⟩ := List.cons.inj r2
        obtain ⟨r5, _⟩ := List.cons.inj r4
        obtain ⟨r6, _⟩ := List.cons.inj r1
        subst r3 r5 r6
        show XT P S c E (P.flX c E (nd k 0 0 x y) ++ xs) a b
        rw [Pgm.flX_nd, if_pos hk, List.append_assoc]
        refine IH x h3 1 hp _ a b ?_
        exact ⟨a, rfl, hk, ⟨n, h4⟩, hq, hx⟩
      · exact two k x y (by omega) (by omega) (by omega) (by omega) (by omega) (by omega) h3 h4 (fun l hl => ⟨by omega, by unfold arK; rw [if_neg (by omega), if_pos (by omega)]; exact hl, fun z => by omega⟩) ht
    · have ht' : P.te c E (nd 30 m w s nl) = some [t] := ht
      rw [Pgm.te_nd] at ht'
      obtain ⟨l, hl, ht'⟩ := Option.bind_eq_some_iff.mp ht'
      have ht' : P.opT c E 30 w (l ++ []) = some [t] := ht'
      rw [List.append_nil, opT_30] at ht'
      obtain ⟨i1, i2⟩ := XT.spine (P := P) (S := S) (c := c) (E := E) (Q := OkE S n) (fun e he t ht xs a b => IH e he t ht xs a b) one (fun e he => OkE.own he) m s l h3 hl
      match l, i1, ht', hl with
      | r :: as, i1, ht', hl =>
        show XT P S c E (P.flX c E (nd 30 m w s nl) ++ xs) a b
        rw [Pgm.flX_nd, if_neg (by omega), if_neg (by omega), te_getD hl, List.append_assoc]
        refine i2 r as rfl (callT_10 ht') _ a b ?_
        show XT P S c E (.inl (30, m, w, ownT s, (r :: as) ++ []) :: xs) _ b
        rw [XT_p (by omega) (by omega), List.append_nil]
        refine ⟨a, t, ?_, by rw [opT_30]; exact ht', ⟨by omega, by rw [i1]; unfold arK; rw [if_pos rfl], fun z => by omega⟩, hx⟩
        show _ = (as.reverse.map mk3 ++ [(ownT s, r)]) ++ a
        rw [List.append_assoc]
        rfl
/-- how many words there may be -/
def XH : List Xi → Nat → Nat → Prop
  | [], n, Y => n ≤ Y
  | .inl (k, _, _, _, l) :: xs, n, Y => n ≤ Y ∧ if k = 50 then XH xs (n + 1) Y else if k = 51 then XH xs n Y else XH xs (n - l.length + 1) Y
  | .inr (_, e) :: xs, n, Y => n ≤ Y ∧ HX e (n - 1) Y ∧ XH xs n Y
theorem XH.le : ∀ {xs : List Xi} {n Y : Nat}, XH xs n Y → n ≤ Y
  | [], n, Y, h => h
  | .inl _ :: _, n, Y, h => h.1
  | .inr _ :: _, n, Y, h => h.1
theorem HX.le {Y : Nat} (e : Tr) : ∀ (n : Nat), HX e n Y → n ≤ Y := by
  induction e using Tr.rec2 with
  | h2 e he =>
    intro n h
    unfold HX at h
    split at h
    · exact absurd rfl (he _ _ _ _ _)
    · exact h
  | h1 k v w a b iha ihb =>
    intro n h
    rw [HX_nd] at h
    split at h
    · omega
    · exact iha n h.1
theorem XH.spine {P : Pgm} {c : Nat} {E : EnvV} {Y : Nat} {Q : Tr → Prop} (hQ : ∀ e, Q e → ∀ l, P.te c E e = some l → ∀ (n : Nat) (xs : List Xi), HX e n Y → XH xs (n + 1) Y → XH (P.flX c E e ++ xs) n Y) (h1 : ∀ e, Q e → ln e = 1) : ∀ (m : Nat) (s : Tr) (l : List Nat), OkSp Q m s → P.te c E s = some l → ∀ (n : Nat) (xs : List Xi), HX s n Y → XH xs (n + m + 1) Y → XH (P.flX c E s ++ xs) n Y
  | 0, s, l, hs, ht, n, xs, h, hx => by
    rcases hs with rfl | hs
    · exact ⟨HX.le _ _ h, hx⟩
    · exact hQ s hs l ht n xs h hx
  | m + 1, s, l, ⟨a', b', hs, ha, hb⟩, ht, n, xs, h, hx => by
    subst hs
    have ht : (P.te c E a').bind (fun x => (P.te c E b').bind fun y => some (x ++ y)) = some l := ht
    obtain ⟨x, hx', ht⟩ := Option.bind_eq_some_iff.mp ht
    obtain ⟨y, hy, ht⟩ := Option.bind_eq_some_iff.mp ht
    have h : HX (nd 70 0 0 a' b') n Y := h
    rw [HX_nd, if_neg (by omega)] at h
    obtain ⟨g1, g2, g3⟩ := h
    have la : ln a' = m + 1 := by
      have : ∀ (m : Nat) (s : Tr), OkSp Q m s → ln s = m + 1 := by
        intro m
        induction m with
        | zero => intro s hs; rcases hs with rfl | hs; rfl; exact h1 s hs
        | succ m ih =>
          intro s hs
          obtain ⟨p, q, rfl, i1, i2⟩ := hs
          show ln p + ln q = _
          rw [ih p i1, h1 q i2]
      exact this m a' ha
    show XH ((P.flX c E a' ++ P.flX c E b') ++ xs) n Y
    rw [List.append_assoc]
    refine XH.spine hQ h1 m a' x ha hx' n _ g1 (hQ b' hb y hy (n + m + 1) xs ?_ ?_)
    · rw [la, ← Nat.add_assoc] at g2; exact g2
    · rw [show n + m + 1 + 1 = n + (m + 1) + 1 by omega]; exact hx
theorem OkE.ln {S : Tks} {n : Nat} {e : Tr} (h : OkE S n e) : ln e = 1 := by
  obtain ⟨k, v, w, a, b, rfl, h1, h2⟩ := Ox.nd (S := S) ⟨n, h⟩
  rw [ln_nd, if_neg (by omega)]
theorem OkE.hx1 {S : Tks} {n m Y : Nat} {e : Tr} (h : OkE S m e) (hh : HX e n Y) : n + 1 ≤ Y := by
  obtain ⟨k, v, w, a, b, rfl, h1, h2⟩ := Ox.nd (S := S) ⟨m, h⟩
  rw [HX_nd] at hh
  split at hh
  · exact hh.2.2
  · exact hh.2.2 (by omega)
theorem XH.fl {P : Pgm} {S : Tks} {c : Nat} {E : EnvV} {Y : Nat} : ∀ (m : Nat) (e : Tr), OkE S m e → ∀ l, P.te c E e = some l → ∀ (n : Nat) (xs : List Xi), HX e n Y → XH xs (n + 1) Y → XH (P.flX c E e ++ xs) n Y
  | 0, e, h, l, ht, n, xs, hh, hx => h.elim
  | m + 1, e, h, l, ht, n, xs, hh, hx => by
    have IH := fun x hx l ht n xs => XH.fl (P := P) (S := S) (c := c) (E := E) (Y := Y) m x hx l ht n xs
    have len1 : ∀ x, OkE S m x → ∀ l, P.te c E x = some l → l.length = 1 := fun x hx l hl => (Pgm.te_ln x l hl).trans (OkE.ln hx)
    have leaf : ∀ k v w s, k ≠ 50 → k ≠ 51 → HX (nd k v w nl nl) n Y → XH (.inl (k, v, w, s, []) :: xs) n Y := fun k v w s h1 h2 g => ⟨HX.le _ _ g, by rw [if_neg h1, if_neg h2]; exact hx⟩
    have un : ∀ k v w x, k ≠ 28 → k ≠ 29 → k ≠ 70 → k ≠ 50 → k ≠ 51 → OkE S m x → P.te c E (nd k v w x nl) = some l → HX (nd k v w x nl) n Y → XH (P.flX c E (nd k v w x nl) ++ xs) n Y := by
      intro k v w x k1 k2 k3 k4 k5 hx' ht hh
      rw [Pgm.te_nd] at ht
      obtain ⟨y, hy, ht⟩ := Option.bind_eq_some_iff.mp ht
      rw [HX_nd, if_neg (by omega)] at hh
      obtain ⟨g1, g2, g3⟩ := hh
      rw [Pgm.flX_nd, if_neg (by omega), if_neg k3, te_getD hy, List.append_assoc]
      refine IH x hx' y hy n _ g1 ?_
      show XH (.inl (k, v, w, ownT x, y ++ []) :: xs) (n + 1) Y
      refine ⟨g3 k3, ?_⟩
      rw [if_neg k4, if_neg k5, List.append_nil, len1 x hx' y hy]
      exact hx
    rcases h with ⟨k, v, rfl, h2⟩ | ⟨k, w, rfl, h2, h3⟩ | ⟨k, x, rfl, h2, h3⟩ | ⟨k, w, x, rfl, h2, h3, h4⟩ | ⟨k, x, y, rfl, h2, h3, h4⟩ | ⟨v, w, s, rfl, h2, h3⟩
    · show XH (P.flX c E (nd k v 0 nl nl) ++ xs) n Y
      rw [Pgm.flX_nd, if_neg (by omega), if_neg (by omega)]
      exact leaf k v 0 _ (by omega) (by omega) hh
    · show XH (P.flX c E (nd k 0 w nl nl) ++ xs) n Y
      rw [Pgm.flX_nd, if_neg (by omega), if_neg (by omega)]
      exact leaf k 0 w _ (by omega) (by omega) hh
    · exact un k 0 0 x (by omega) (by omega) (by omega) (by omega) (by omega) h3 ht hh
    · exact un k 0 w x (by omega) (by omega) (by omega) (by omega) (by omega) h4 ht hh
    · have ht' : P.te c E (nd k 0 0 x y) = some l := ht
      have hh' : HX (nd k 0 0 x y) n Y := hh
      rw [Pgm.te_nd] at ht'
      obtain ⟨p, hp, ht'⟩ := Option.bind_eq_some_iff.mp ht'
      obtain ⟨q, hq, ht'⟩ := Option.bind_eq_some_iff.mp ht'
      show XH (P.flX c E (nd k 0 0 x y) ++ xs) n Y
      rw [HX_nd] at hh'
      rw [Pgm.flX_nd]
      by_cases hk : k = 28 ∨ k = 29
      · rw [if_pos hk] at hh' ⊢
        obtain ⟨g1, g2, g3⟩ := hh'
        rw [List.append_assoc]
        exact IH x h3 p hp n _ g1 ⟨g3, by rw [show n + 1 - 1 = n by omega]; exact g2, hx⟩
      · rw [if_neg hk] at hh' ⊢
        obtain ⟨g1, g2, g3⟩ := hh'
        rw [if_neg (by omega), te_getD hp, te_getD hq, List.append_assoc, List.append_assoc]
        rw [OkE.ln h3] at g2
        refine IH x h3 p hp n _ g1 (IH y h4 q hq (n + 1) _ g2 ?_)
        refine ⟨?_, ?_⟩
        · exact OkE.hx1 h4 g2
        · rw [if_neg (by omega), if_neg (by omega), List.length_append, len1 x h3 p hp, len1 y h4 q hq]
          exact hx
    · have ht' : P.te c E (nd 30 v w s nl) = some l := ht
      have hh' : HX (nd 30 v w s nl) n Y := hh
      rw [Pgm.te_nd] at ht'
      obtain ⟨p, hp, ht'⟩ := Option.bind_eq_some_iff.mp ht'
      rw [HX_nd, if_neg (by omega)] at hh'
      obtain ⟨g1, g2, g3⟩ := hh'
      have l1 : ∀ e, OkE S m e → ln e = 1 := fun e he => OkE.ln he
      have ls' : ∀ (v : Nat) (s : Tr), OkSp (OkE S m) v s → ln s = v + 1 := by
        intro v
        induction v with
        | zero => intro s hs; rcases hs with rfl | hs; rfl; exact l1 s hs
        | succ v ih =>
          intro s hs
          obtain ⟨p, q, rfl, i1, i2⟩ := hs
          show ln p + ln q = _
          rw [ih p i1, l1 q i2]
      have hl := (Pgm.te_ln s p hp).trans (ls' v s h3)
      show XH (P.flX c E (nd 30 v w s nl) ++ xs) n Y
      rw [Pgm.flX_nd, if_neg (by omega), if_neg (by omega), te_getD hp, List.append_assoc]
      refine XH.spine IH l1 v s p h3 hp n _ g1 ?_
      show XH (.inl (30, v, w, ownT s, p ++ []) :: xs) (n + v + 1) Y
      refine ⟨?_, ?_⟩
      · have := HX.le _ _ g2
        rw [ls' v s h3] at this
        omega
      · rw [if_neg (by omega), if_neg (by omega), List.append_nil, hl, show n + v + 1 - (v + 1) + 1 = n + 1 by omega]
        exact hx
/-- how much is to be done, at most -/
def xw : List Xi → Nat
  | [] => 0
  | .inl _ :: xs => 1 + xw xs
  | .inr (_, e) :: xs => cl e + 2 + xw xs
theorem xw_app : ∀ (a b : List Xi), xw (a ++ b) = xw a + xw b
  | [], b => by show xw b = 0 + xw b; omega
  | .inl _ :: a, b => by show 1 + xw (a ++ b) = 1 + xw a + xw b; rw [xw_app a b]; omega
  | .inr (_, e) :: a, b => by show cl e + 2 + xw (a ++ b) = cl e + 2 + xw a + xw b; rw [xw_app a b]; omega
theorem xw_fl (P : Pgm) (c : Nat) (E : EnvV) (e : Tr) : xw (P.flX c E e) = cl e := by
  induction e using Tr.rec2 with
  | h2 e he => rw [Pgm.flX_no he, cl_no he]; rfl
  | h1 k v w a b iha ihb =>
    rw [Pgm.flX_nd, cl_nd]
    split
    · rw [xw_app, iha]
      show cl a + (cl b + 2 + 0) = _
      omega
    · split
      · rw [xw_app, iha, ihb]
        omega
      · rw [xw_app, xw_app, iha, ihb]
        show cl a + (cl b + (1 + 0)) = _
        omega
theorem xw_len : ∀ (a : List Xi), a.length ≤ xw a
  | [] => Nat.le_refl 0
  | .inl _ :: a => by have := xw_len a; show a.length + 1 ≤ 1 + xw a; omega
  | .inr (_, e) :: a => by have := xw_len a; show a.length + 1 ≤ cl e + 2 + xw a; omega
