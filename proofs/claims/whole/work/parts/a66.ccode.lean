/-! ===== THE CLASS' CODE: where the methods' pieces lie ===== -/
/-- no mark of an end within -/
def K60 : Tr → Prop
  | .op (.op (.var k) (.op (.var _) (.var _))) (.op a b) => (k ≠ 61 ∧ k < 1000) ∧ K60 a ∧ K60 b
  | _ => True
theorem K60_nd (k v w : Nat) (a b : Tr) : K60 (nd k v w a b) = ((k ≠ 61 ∧ k < 1000) ∧ K60 a ∧ K60 b) := rfl
theorem OkSp.k60 {Q : Tr → Prop} (hQ : ∀ e, Q e → K60 e) : ∀ {m : Nat} {s : Tr}, OkSp Q m s → K60 s
  | 0, s, h => by
    rcases h with rfl | h
    · exact ⟨by decide, trivial, trivial⟩
    · exact hQ s h
  | m + 1, s, ⟨a, b, h1, h2, h3⟩ => by
    rw [h1]
    exact ⟨by decide, h2.k60 hQ, hQ b h3⟩
theorem OkE.k60 {S : Tks} : ∀ {n : Nat} {x : Tr}, OkE S n x → K60 x
  | 0, x, h => h.elim
  | n + 1, x, h => by
    rcases h with ⟨k, v, rfl, hk⟩ | ⟨k, w, rfl, hk, hw⟩ | ⟨k, a, rfl, hk, ha⟩ | ⟨k, w, a, rfl, hk, hw, ha⟩ | ⟨k, a, b, rfl, hk, ha, hb⟩ | ⟨m, w, s, rfl, hw, hs⟩
    · exact ⟨by omega, trivial, trivial⟩
    · exact ⟨by omega, trivial, trivial⟩
    · exact ⟨by omega, ha.k60, trivial⟩
    · exact ⟨by omega, ha.k60, trivial⟩
    · exact ⟨by omega, ha.k60, hb.k60⟩
    · exact ⟨by decide, hs.k60 (fun e he => OkE.k60 he), trivial⟩
theorem Ox.k60 {S : Tks} {x : Tr} (h : Ox S x) : K60 x := by
  obtain ⟨n, h⟩ := h
  exact h.k60
/-- a piece that is no end -/
def n61 (h : pH) (i : Nat) : Prop := rd h 39 i ≠ 61
theorem QC.n61 {C : Cx} {p o : Int32} {h : pH} {i k v w g : Nat} (q : QC C p o h i k v w g) (hk : k ≠ 61 ∧ k < 1000) : n61 h i := by
  intro z
  rw [q.1] at z
  exact i_ne (b := 61) (by omega) (by omega) hk.1 z
theorem CE.n61 {C : Cx} {p o : Int32} {h : pH} : ∀ (e : Tr) (s : Nat), K60 e → CE (QC C p o h) e s → ∀ i, s ≤ i → i < s + cl e → n61 h i := by
  intro e
  induction e using Tr.rec2 with
  | h2 e he =>
    intro s _ _ i i1 i2
    have : cl e = 0 := by
      unfold cl
      split
      · exact absurd rfl (he _ _ _ _ _)
      · rfl
    omega
  | h1 k v w a b iha ihb =>
    intro s hk h i i1 i2
    rw [K60_nd] at hk
    obtain ⟨k1, k2, k3⟩ := hk
    rw [CE_nd] at h
    rw [cl_nd] at i2
    by_cases hk2 : k = 28 ∨ k = 29
    · rw [if_pos hk2] at h i2
      obtain ⟨h1, h2, h3, h4⟩ := h
      by_cases y1 : i < s + cl a
      · exact iha s k2 h1 i i1 y1
      · by_cases y2 : i = s + cl a
        · rw [y2]; exact h2.n61 k1
        · by_cases y3 : i < s + cl a + 1 + cl b
          · exact ihb _ k3 h3 i (by omega) y3
          · rw [show i = s + cl a + 1 + cl b by omega]; exact h4.n61 (by omega)
    · rw [if_neg hk2] at h i2
      by_cases hk3 : k = 70
      · rw [if_pos hk3] at h i2
        by_cases y1 : i < s + cl a
        · exact iha s k2 h.1 i i1 y1
        · exact ihb _ k3 h.2 i (by omega) (by omega)
      · rw [if_neg hk3] at h i2
        obtain ⟨h1, h2, h3⟩ := h
        by_cases y1 : i < s + cl a
        · exact iha s k2 h1 i i1 y1
        · by_cases y3 : i < s + cl a + cl b
          · exact ihb _ k3 h2 i (by omega) y3
          · rw [show i = s + cl a + cl b by omega]; exact h3.n61 k1
theorem CB.n61 {S : Tks} {C : Cx} {h : pH} : ∀ (n : Nat) (e : Tr) (s : Nat) (o : Int32), GK S n e → CB (QC5 C h) e s o → ∀ i, s ≤ i → i < s + cb e → n61 h i
  | 0, e, s, o, hk, q, i, i1, i2 => by
    rw [show e = nl from hk, cb_nl] at i2
    omega
  | n + 1, e, s, o, hk, q, i, i1, i2 => by
    rcases hk with rfl | ⟨p, y, w, r, rfl, _, _, g1⟩ | ⟨p, y, w, x, r, rfl, _, _, ox, g1⟩ | ⟨p, k, x, r, rfl, hk, g1⟩ | ⟨p, x, y, r, rfl, hp, ox, oy, g1⟩ | ⟨p, x, a, f, b, r, rfl, hf, ox, ga, gb, g1⟩ | ⟨p, x, a, r, rfl, ox, ga, g1⟩ | ⟨p, a, cw, w, b, r, rfl, _, _, ga, gb, g1⟩
    · rw [cb_nl] at i2
      omega
    · rw [cb_tell] at i2
      rw [CB_tell] at q
      by_cases y1 : i = s
      · rw [y1]; exact QC.n61 q.1 (by omega)
      · exact CB.n61 n r _ o g1 q.2 i (by omega) (by omega)
    · rw [cb_tellv] at i2
      rw [CB_tellv] at q
      by_cases y1 : i < s + cl x
      · exact CE.n61 x s ox.k60 q.1 i i1 y1
      · by_cases y2 : i = s + cl x
        · rw [y2]; exact QC.n61 q.2.1 (by omega)
        · exact CB.n61 n r _ o g1 q.2.2 i (by omega) (by omega)
    · rw [cb_k (GKk hk)] at i2
      rw [CB_k (GKk hk)] at q
      have kx : K60 x := by
        rcases hk with ⟨_, rfl⟩ | ⟨_, ox⟩
        · trivial
        · exact ox.k60
      have := GKk hk
      by_cases y1 : i < s + cl x
      · exact CE.n61 x s kx q.1 i i1 y1
      · by_cases y2 : i = s + cl x
        · rw [y2]; exact QC.n61 q.2.1 (by omega)
        · exact CB.n61 n r _ o g1 q.2.2 i (by omega) (by omega)
    · rw [cb_give] at i2
      rw [CB_give] at q
      obtain ⟨q1, q2, q3, q4⟩ := q
      by_cases y1 : i < s + (cl x - 1)
      · obtain ⟨k, v, w, a, b, rfl, hx⟩ := placeOf ox hp
        have hclx : cl (nd k v w a b) - 1 = cl a + cl b := by
          rw [cl_nd, if_neg (by omega), if_neg (by omega)]; omega
        have kx := ox.k60
        rw [K60_nd] at kx
        by_cases y2 : i < s + cl a
        · exact CE.n61 a s kx.2.1 q1.1 i i1 y2
        · exact CE.n61 b _ kx.2.2 q1.2 i (by omega) (by omega)
      · by_cases y2 : i < s + (cl x - 1) + cl y
        · exact CE.n61 y _ oy.k60 q2 i (by omega) y2
        · by_cases y3 : i = s + (cl x - 1) + cl y
          · rw [y3]
            exact QC.n61 q3 (by unfold gk; repeat' split
                                all_goals omega)
          · exact CB.n61 n r _ o g1 q4 i (by omega) (by omega)
    · rw [cb_ite] at i2
      rw [CB_ite] at q
      obtain ⟨q1, q2, q3, q4⟩ := q
      by_cases y1 : i < s + cl x
      · exact CE.n61 x s ox.k60 q1 i i1 y1
      by_cases y2 : s + cl x + 1 ≤ i ∧ i < s + cl x + 1 + cb a
      · exact CB.n61 n a _ o ga q2 i y2.1 y2.2
      by_cases z : f = 1
      · rw [if_pos z] at q3 q4 i2
        obtain ⟨c1, ⟨p2, c2⟩, c3, ⟨p4, c4⟩⟩ := q3
        by_cases y3 : i = s + cl x
        · rw [y3]; exact QC.n61 c1 (by omega)
        by_cases y4 : i = s + cl x + 1 + cb a
        · rw [y4]; exact QC.n61 c2 (by omega)
        by_cases y5 : i < s + cl x + 1 + cb a + 1 + cb b
        · exact CB.n61 n b _ o gb c3 i (by omega) y5
        by_cases y6 : i = s + cl x + 1 + cb a + 1 + cb b
        · rw [y6]; exact QC.n61 c4 (by omega)
        exact CB.n61 n r _ o g1 q4 i (by omega) (by omega)
      · rw [if_neg z] at q3 q4 i2
        obtain ⟨c1, ⟨p2, c2⟩⟩ := q3
        by_cases y3 : i = s + cl x
        · rw [y3]; exact QC.n61 c1 (by omega)
        by_cases y4 : i = s + cl x + 1 + cb a
        · rw [y4]; exact QC.n61 c2 (by omega)
        exact CB.n61 n r _ o g1 q4 i (by omega) (by omega)
    · rw [cb_whil] at i2
      rw [CB_whil] at q
      obtain ⟨q1, q2, c1, ⟨p2, c2⟩, q4⟩ := q
      by_cases y1 : i < s + cl x
      · exact CE.n61 x s ox.k60 q1 i i1 y1
      by_cases y2 : s + cl x + 1 ≤ i ∧ i < s + cl x + 1 + cb a
      · exact CB.n61 n a _ o ga q2 i y2.1 y2.2
      by_cases y3 : i = s + cl x
      · rw [y3]; exact QC.n61 c1 (by omega)
      by_cases y4 : i = s + cl x + 1 + cb a
      · rw [y4]; exact QC.n61 c2 (by omega)
      exact CB.n61 n r _ o g1 q4 i (by omega) (by omega)
    · rw [cb_try] at i2
      rw [CB_try] at q
      obtain ⟨c1, q2, c2, q3, ⟨p4, c4⟩, q4⟩ := q
      by_cases y1 : i = s
      · rw [y1]; exact QC.n61 c1 (by omega)
      by_cases y2 : i < s + 1 + cb a
      · exact CB.n61 n a _ _ ga q2 i (by omega) y2
      by_cases y3 : i = s + 1 + cb a
      · rw [y3]; exact QC.n61 c2 (by omega)
      by_cases y4 : i < s + 1 + cb a + 1 + cb b
      · exact CB.n61 n b _ _ gb q3 i (by omega) y4
      by_cases y5 : i = s + 1 + cb a + 1 + cb b
      · rw [y5]; exact QC.n61 c4 (by omega)
      exact CB.n61 n r _ o g1 q4 i (by omega) (by omega)
/-- where a method's code begins -/
def Pgm.kf (P : Pgm) (m : Nat) : Nat := msK (P.ms.take m)
/-- the methods' code -/
def CCd (C : Cx) (P : Pgm) (h : pH) : Prop := rd h 38 7 = Int32.ofNat (msK P.ms) ∧ msK P.ms ≤ 3000 ∧ ∀ m b, P.ms[m]? = some b → b.1 = true → rd h 33 m = Int32.ofNat (P.kf m) ∧ CB (QC5 C h) (mbB b) (P.kf m) (-1) ∧ PcAt h (P.kf m + cb (mbB b)) 61 0 0 0 (Int32.ofNat b.2.2.2.2.2.2) (-1)
theorem msK_append : ∀ (l k : List Mb), msK (l ++ k) = msK l + msK k
  | [], k => by show msK k = 0 + msK k; omega
  | b :: l, k => by show mcC b + msK (l ++ k) = mcC b + msK l + msK k; rw [msK_append l k]; omega
theorem msK_take {l : List Mb} {m : Nat} {b : Mb} (h : l[m]? = some b) : msK (l.take (m + 1)) = msK (l.take m) + mcC b := by
  rw [List.take_succ, h, msK_append]
  show msK (l.take m) + (mcC b + 0) = _
  omega
theorem msK_le {l : List Mb} : ∀ {m : Nat}, msK (l.take m) ≤ msK l := by
  intro m
  have := msK_append (l.take m) (l.drop m)
  rw [List.take_append_drop] at this
  omega
theorem Pgm.kf_succ {P : Pgm} {m : Nat} {b : Mb} (h : P.ms[m]? = some b) : P.kf (m + 1) = P.kf m + mcC b := msK_take h
theorem Pgm.kf_le {P : Pgm} {m : Nat} {b : Mb} (h : P.ms[m]? = some b) (hb : b.1 = true) : P.kf m + cb (mbB b) + 1 ≤ msK P.ms := by
  have h1 := Pgm.kf_succ h
  have h2 : P.kf (m + 1) ≤ msK P.ms := msK_le
  unfold mcC at h1
  rw [if_pos hb] at h1
  omega
theorem msC.code {C : Cx} {h : pH} : ∀ {l : List Mb} {m p c : Nat}, msC C h l m p c → ∀ (i : Nat) (b : Mb), l[i]? = some b → b.1 = true → rd h 33 (m + i) = Int32.ofNat (c + msK (l.take i)) ∧ CB (QC5 C h) (mbB b) (c + msK (l.take i)) (-1) ∧ PcAt h (c + msK (l.take i) + cb (mbB b)) 61 0 0 0 (Int32.ofNat b.2.2.2.2.2.2) (-1)
  | [], m, p, c, _, i, b, hb, _ => by cases hb
  | x :: l, m, p, c, ⟨q1, q2⟩, i, b, hb, hm => by
    cases i with
    | zero =>
      obtain rfl : x = b := Option.some.inj hb
      obtain ⟨r1, r2, r3, _⟩ := q1.2.2.2.2.2.2.2 hm
      exact ⟨r1, r2, r3⟩
    | succ i =>
      have := msC.code q2 i b hb hm
      rw [show m + (i + 1) = m + 1 + i by omega, show c + msK ((x :: l).take (i + 1)) = c + mcC x + msK (l.take i) by show c + (mcC x + msK (l.take i)) = _; omega]
      exact this
theorem csC.code {C : Cx} {h : pH} : ∀ {xs : List Cl} {k m p c : Nat}, csC C h xs k m p c → ∀ (i : Nat) (b : Mb), (xs.flatMap (fun x => x.2.2.2))[i]? = some b → b.1 = true → rd h 33 (m + i) = Int32.ofNat (c + msK ((xs.flatMap (fun x => x.2.2.2)).take i)) ∧ CB (QC5 C h) (mbB b) (c + msK ((xs.flatMap (fun x => x.2.2.2)).take i)) (-1) ∧ PcAt h (c + msK ((xs.flatMap (fun x => x.2.2.2)).take i) + cb (mbB b)) 61 0 0 0 (Int32.ofNat b.2.2.2.2.2.2) (-1)
  | [], _, _, _, _, _, i, b, hb, _ => by cases hb
  | x :: xs, k, m, p, c, ⟨q1, q2⟩, i, b, hb, hm => by
    have hfm : (x :: xs).flatMap (fun x => x.2.2.2) = x.2.2.2 ++ xs.flatMap (fun x => x.2.2.2) := rfl
    rw [hfm] at hb ⊢
    by_cases hi : i < x.2.2.2.length
    · rw [List.getElem?_append_left hi] at hb
      rw [List.take_append_of_le_length (by omega)]
      exact msC.code q1.2.2.2.2.2.2 i b hb hm
    · rw [List.getElem?_append_right (by omega)] at hb
      have := csC.code q2 (i - x.2.2.2.length) b hb hm
      rw [List.take_append, List.take_of_length_le (by omega), msK_append]
      rw [show m + i = m + x.2.2.2.length + (i - x.2.2.2.length) by omega, ← Nat.add_assoc]
      exact this
theorem csK_ms (P : Pgm) : ∀ (xs : List Cl), csK xs = msK (xs.flatMap (fun x => x.2.2.2))
  | [] => rfl
  | x :: xs => by
    show msK x.2.2.2 + csK xs = msK (x.2.2.2 ++ xs.flatMap (fun x => x.2.2.2))
    rw [msK_append, csK_ms P xs]
theorem CPar.ccd {C : Cx} {cs : List Cl} {nmw : Nat → List Int32} {h : pH} (q : CPar C cs h) : CCd C (nmw, cs) h := by
  obtain ⟨q1, q2, q3, q4, q5, q6, q7, q8, q9, q10, q11, q12⟩ := q
  have e := csK_ms (nmw, cs) cs
  refine ⟨by rw [q6, e]; rfl, by rw [e] at q11; exact q11, fun m b hb hm => ?_⟩
  have := csC.code q2 m b hb hm
  rw [Nat.zero_add, Nat.zero_add] at this
  exact this
/-- what the code is made of -/
def cdA (a k : Nat) : Prop := (39 ≤ a ∧ a ≤ 45) ∨ a = 33 ∨ (a = 38 ∧ k = 7)
