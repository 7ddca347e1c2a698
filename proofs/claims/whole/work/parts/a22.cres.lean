/-! ===== MEMBERS: their types; the class makes names of classes classes ===== -/
/-- all parameters in their order -/
def Pgm.ps (P : Pgm) : List (Nat × Nat) := P.ms.flatMap (fun b => b.2.2.2.2.1)
/-- the first parameter of member m -/
def Pgm.pf (P : Pgm) (m : Nat) : Nat := msP (P.ms.take m)
theorem flat_len (l : List Mb) : (l.flatMap (fun b => b.2.2.2.2.1)).length = msP l := by
  induction l with
  | nil => rfl
  | cons x l ih => rw [List.flatMap_cons, List.length_append, ih]; rfl
theorem flat_get : ∀ {l : List Mb} {m i : Nat} {b : Mb}, l[m]? = some b → i < mbP b → (l.flatMap (fun b => b.2.2.2.2.1))[msP (l.take m) + i]? = b.2.2.2.2.1[i]?
  | [], m, i, b, h, _ => by cases h
  | y :: l, 0, i, b, h, hi => by
    obtain rfl := Option.some.inj h
    rw [List.flatMap_cons, List.take_zero, show msP [] = 0 from rfl, Nat.zero_add, List.getElem?_append_left hi]
  | y :: l, m + 1, i, b, h, hi => by
    rw [List.flatMap_cons, List.take_succ_cons, msP_cons, List.getElem?_append_right (by show mbP y ≤ _; omega), show mbP y + msP (List.take m l) + i - y.2.2.2.2.1.length = msP (List.take m l) + i by show mbP y + msP (List.take m l) + i - mbP y = _; omega]
    exact flat_get (l := l) h hi
theorem msP_take_succ {l : List Mb} {m : Nat} {b : Mb} (h : l[m]? = some b) : msP (l.take (m + 1)) = msP (l.take m) + mbP b := by
  rw [List.take_succ, h, msP_app]
  show _ + (mbP b + 0) = _
  omega
theorem msP_take_le (l : List Mb) (i : Nat) : msP (l.take i) ≤ msP l := by
  have := msP_app (l.take i) (l.drop i)
  rw [List.take_append_drop] at this
  omega
theorem Pgm.pf_succ {P : Pgm} {m : Nat} {b : Mb} (h : P.ms[m]? = some b) : P.pf (m + 1) = P.pf m + mbP b ∧ P.pf (m + 1) ≤ P.ps.length := by
  refine ⟨msP_take_succ h, ?_⟩
  have := msP_take_le P.ms (m + 1)
  unfold Pgm.ps
  rw [flat_len]
  exact this
/-- a type as the class tells it ahead of the check -/
def tyN (num : List Int32 → Nat) (P : Pgm) (y : Nat) : Int32 := if y < 4 then -1 - Int32.ofNat y else Int32.ofNat (num (P.1 (y - 4)))
def tyD (D : List Int32 → Prop) (P : Pgm) (y : Nat) : Prop := y < 4 ∨ D (P.1 (y - 4))
theorem CT.resolved {P : Pgm} {D : List Int32 → Prop} {num : List Int32 → Nat} {N y : Nat} {h : pH} (q : CT P D num h) (hN : 1100 ≤ N) (hy : tyD D P y) : fX6_resolved N 25 (tyN num P y) h = some (ctI (P.rt y), h) := by
  have hn := q.2.2.2.2.2.1
  unfold fX6_resolved tyN Pgm.rt
  rw [if_pos (o_25 q.1)]
  by_cases h4 : y < 4
  · rw [if_pos h4, if_pos h4]
    obtain ⟨e1, e2⟩ := ctI_lt (show y ≤ 5 by omega)
    rw [← e1, if_pos e2]
  · rw [if_neg h4, if_neg h4]
    have hw := hy.resolve_left h4
    have hl := q.2.2.1 (P.1 (y - 4))
    rw [if_neg (i_nneg (by omega)), R_25_0 q.1, Option.bind_some, q.find hN hw, Option.bind_some]
    rcases hf : P.fnd (P.1 (y - 4)) with _ | c
    · rfl
    · show some (Int32.ofNat c, h) = some (ctI (10 + c), h)
      rw [ctI_cls (by omega), show 10 + c - 10 = c by omega]
theorem Pgm.rt_ok (P : Pgm) {y : Nat} : P.tOk (P.rt y) := by
  unfold Pgm.rt Pgm.tOk
  by_cases h4 : y < 4
  · rw [if_pos h4]; omega
  · rw [if_neg h4]
    rcases hf : P.fnd (P.1 (y - 4)) with _ | c
    · exact Or.inl (by show 5 ≤ 5; omega)
    · have := (Pgm.fnd_lt hf).1
      exact Or.inr ⟨by show 10 ≤ 10 + c; omega, by show 10 + c < _; omega⟩
/-- types are still as they were told; parameters -/
def CM0 (P : Pgm) (D : List Int32 → Prop) (num : List Int32 → Nat) (h : pH) : Prop := rd h 25 14 = Int32.ofNat P.ps.length ∧ P.ps.length ≤ 1000 ∧ (∀ m b, P.ms[m]? = some b → tyD D P b.2.1 ∧ rd h 28 m = tyN num P b.2.1 ∧ rd h 31 m = Int32.ofNat (P.pf m) ∧ rd h 32 m = Int32.ofNat (mbP b)) ∧ (∀ i x, P.ps[i]? = some x → tyD D P x.1 ∧ D (P.1 x.2) ∧ rd h 37 i = tyN num P x.1 ∧ rd h 36 i = Int32.ofNat (num (P.1 x.2)))
/-- types are what they mean -/
def CM1 (P : Pgm) (D : List Int32 → Prop) (num : List Int32 → Nat) (h : pH) : Prop := rd h 25 14 = Int32.ofNat P.ps.length ∧ P.ps.length ≤ 1000 ∧ (∀ m b, P.ms[m]? = some b → rd h 28 m = ctI (P.rt b.2.1) ∧ rd h 31 m = Int32.ofNat (P.pf m) ∧ rd h 32 m = Int32.ofNat (mbP b)) ∧ (∀ i x, P.ps[i]? = some x → D (P.1 x.2) ∧ rd h 37 i = ctI (P.rt x.1) ∧ rd h 36 i = Int32.ofNat (num (P.1 x.2)))
theorem CT.res_34 {P : Pgm} {D : List Int32 → Prop} {num : List Int32 → Nat} {N : Nat} (hN : 1100 ≤ N) : ∀ (d i k : Nat) (h : pH), i + d = P.ps.length → d < k → CT P D num h → rd h 25 14 = Int32.ofNat P.ps.length → P.ps.length ≤ 1000 → (∀ j x, P.ps[j]? = some x → tyD D P x.1 ∧ rd h 37 j = if j < i then ctI (P.rt x.1) else tyN num P x.1) → ∃ h', fX6_resolveTypes_34 N k 25 (Int32.ofNat i) h = some h' ∧ (∀ j x, P.ps[j]? = some x → rd h' 37 j = ctI (P.rt x.1)) ∧ Chg (fun a _ => a = 37) h h'
  | 0, i, k, h, hd, hk, q, e14, hl, hp => by
    obtain ⟨k, rfl⟩ : ∃ k', k = k' + 1 := ⟨k - 1, by omega⟩
    refine ⟨h, ?_, fun j x hj => ?_, Chg.refl _ _⟩
    · rw [fX6_resolveTypes_34, g_25_14 q.1, Option.bind_some, e14, ifLe (by omega) (by omega), if_pos (by omega)]
    · have := (List.getElem?_eq_some_iff.mp hj).1
      rw [(hp j x hj).2, if_pos (by omega)]
  | d + 1, i, k, h, hd, hk, q, e14, hl, hp => by
    obtain ⟨k, rfl⟩ : ∃ k', k = k' + 1 := ⟨k - 1, by omega⟩
    have hx : P.ps[i]? = some (P.ps[i]'(by omega)) := List.getElem?_eq_getElem (by omega)
    obtain ⟨t1, t2⟩ := hp i _ hx
    rw [if_neg (by omega)] at t2
    generalize P.ps[i]'(by omega) = x at hx t1 t2
    have g : Chg (fun a _ => a = 37) h (wr h 37 i (ctI (P.rt x.1))) := Chg.wr _ _ _ _ rfl
    have q' := q.chg g (fun a k ha => by unfold ctA at ha; omega)
    obtain ⟨h', e1, e2, e3⟩ := CT.res_34 (P := P) (D := D) (num := num) hN d (i + 1) k (wr h 37 i (ctI (P.rt x.1))) (by omega) (by omega) q' (by rw [rd_wr_ne _ _ (by omega)]; exact e14) hl (fun j y hj => by
      obtain ⟨u1, u2⟩ := hp j y hj
      refine ⟨u1, ?_⟩
      by_cases z : j = i
      · subst z
        rw [hx] at hj
        obtain rfl := Option.some.inj hj
        rw [W_37 q.1, if_pos (by omega)]
      · rw [rd_wr_ne _ _ (by omega), u2]
        by_cases y : j < i
        · rw [if_pos y, if_pos (by omega)]
        · rw [if_neg y, if_neg (by omega)])
    refine ⟨h', ?_, e2, g.trans e3⟩
    rw [fX6_resolveTypes_34, g_25_14 q.1, Option.bind_some, e14, ifLe (by omega) (by omega), if_neg (by omega), R_25_13 q.1, Option.bind_some, Option.bind_some, L_37 q.1 (by omega), Option.bind_some, t2, q.resolved hN t1, Option.bind_some]
    dsimp only
    rw [T_37 q.1 (by omega), Option.bind_some, i_add1]
    exact e1
theorem CT.res_2 {P : Pgm} {D : List Int32 → Prop} {num : List Int32 → Nat} {N : Nat} (hN : 1100 ≤ N) : ∀ (d i k : Nat) (h : pH), i + d = P.ms.length → d < k → CT P D num h → (∀ j x, P.ms[j]? = some x → tyD D P x.2.1 ∧ rd h 28 j = if j < i then ctI (P.rt x.2.1) else tyN num P x.2.1) → ∃ h', fX6_resolveTypes_2 N k 25 (Int32.ofNat i) h = fX6_resolveTypes_34 N N 25 0 h' ∧ (∀ j x, P.ms[j]? = some x → rd h' 28 j = ctI (P.rt x.2.1)) ∧ Chg (fun a _ => a = 28) h h'
  | 0, i, k, h, hd, hk, q, hp => by
    obtain ⟨k, rfl⟩ : ∃ k', k = k' + 1 := ⟨k - 1, by omega⟩
    have hl := q.2.2.2.2.2.2.2.2.2.1
    refine ⟨h, ?_, fun j x hj => ?_, Chg.refl _ _⟩
    · rw [fX6_resolveTypes_2, g_25_11 q.1, Option.bind_some, q.2.2.2.2.2.2.2.2.1, ifLe (by omega) (by omega), if_pos (by omega)]
    · have := (List.getElem?_eq_some_iff.mp hj).1
      rw [(hp j x hj).2, if_pos (by omega)]
  | d + 1, i, k, h, hd, hk, q, hp => by
    obtain ⟨k, rfl⟩ : ∃ k', k = k' + 1 := ⟨k - 1, by omega⟩
    have hl := q.2.2.2.2.2.2.2.2.2.1
    have hx : P.ms[i]? = some (P.ms[i]'(by omega)) := List.getElem?_eq_getElem (by omega)
    obtain ⟨t1, t2⟩ := hp i _ hx
    rw [if_neg (by omega)] at t2
    generalize P.ms[i]'(by omega) = x at hx t1 t2
    have g : Chg (fun a _ => a = 28) h (wr h 28 i (ctI (P.rt x.2.1))) := Chg.wr _ _ _ _ rfl
    have q' := q.chg g (fun a k ha => by unfold ctA at ha; omega)
    obtain ⟨h', e1, e2, e3⟩ := CT.res_2 (P := P) (D := D) (num := num) hN d (i + 1) k (wr h 28 i (ctI (P.rt x.2.1))) (by omega) (by omega) q' (fun j y hj => by
      obtain ⟨u1, u2⟩ := hp j y hj
      refine ⟨u1, ?_⟩
      by_cases z : j = i
      · subst z
        rw [hx] at hj
        obtain rfl := Option.some.inj hj
        rw [W_28 q.1, if_pos (by omega)]
      · rw [rd_wr_ne _ _ (by omega), u2]
        by_cases y : j < i
        · rw [if_pos y, if_pos (by omega)]
        · rw [if_neg y, if_neg (by omega)])
    refine ⟨h', ?_, e2, g.trans e3⟩
    rw [fX6_resolveTypes_2, g_25_11 q.1, Option.bind_some, q.2.2.2.2.2.2.2.2.1, ifLe (by omega) (by omega), if_neg (by omega), R_25_3 q.1, Option.bind_some, Option.bind_some, L_28 q.1 (by omega), Option.bind_some, t2, q.resolved hN t1, Option.bind_some]
    dsimp only
    rw [T_28 q.1 (by omega), Option.bind_some, i_add1]
    exact e1
theorem CT.resolve {P : Pgm} {D : List Int32 → Prop} {num : List Int32 → Nat} {N : Nat} {h : pH} (hN : 1100 ≤ N) (q : CT P D num h) (m : CM0 P D num h) : ∃ h', fX6_resolveTypes N 25 h = some h' ∧ CM1 P D num h' ∧ Chg (fun a _ => a = 28 ∨ a = 37) h h' := by
  obtain ⟨m1, m2, m3, m4⟩ := m
  have hl := q.2.2.2.2.2.2.2.2.2.1
  obtain ⟨h1, e1, e2, e3⟩ := CT.res_2 (P := P) (D := D) (num := num) hN P.ms.length 0 N h (by omega) (by omega) q (fun j x hj => ⟨(m3 j x hj).1, by rw [(m3 j x hj).2.1, if_neg (by omega)]⟩)
  have q1 := q.chg e3 (fun a k ha => by unfold ctA at ha; omega)
  obtain ⟨h2, f1, f2, f3⟩ := CT.res_34 (P := P) (D := D) (num := num) hN P.ps.length 0 N h1 (by omega) (by omega) q1 (by rw [e3.2.2.1 _ _ (by omega)]; exact m1) m2 (fun j x hj => ⟨(m4 j x hj).1, by rw [e3.2.2.1 _ _ (by omega), (m4 j x hj).2.2.1, if_neg (by omega)]⟩)
  refine ⟨h2, ?_, ⟨?_, m2, fun j x hj => ⟨?_, ?_, ?_⟩, fun j x hj => ⟨(m4 j x hj).2.1, f2 j x hj, ?_⟩⟩, (e3.mono (fun a k z => Or.inl z)).trans (f3.mono (fun a k z => Or.inr z))⟩
  · unfold fX6_resolveTypes
    rw [if_pos (o_25 q.1), show (0 : Int32) = Int32.ofNat 0 from rfl, e1]
    exact f1
  · rw [f3.2.2.1 _ _ (by omega), e3.2.2.1 _ _ (by omega)]; exact m1
  · rw [f3.2.2.1 _ _ (by omega)]; exact e2 j x hj
  · rw [f3.2.2.1 _ _ (by omega), e3.2.2.1 _ _ (by omega)]; exact (m3 j x hj).2.2.1
  · rw [f3.2.2.1 _ _ (by omega), e3.2.2.1 _ _ (by omega)]; exact (m3 j x hj).2.2.2
  · rw [f3.2.2.1 _ _ (by omega), e3.2.2.1 _ _ (by omega)]; exact (m4 j x hj).2.2.2
theorem tyc_N (T : Txt) (r : List (List Int32)) (n : Nat) (cs : List Cl) (y : Nat) : tyc (cxT T r n) y = tyN (nmb r) (tkW T, cs) y := by
  unfold tyc tyN
  rcases y with _ | _ | _ | _ | y
  · rfl
  · rfl
  · rfl
  · rfl
  · rw [if_neg (by omega), if_neg (by omega), if_neg (by omega), if_neg (by omega), if_neg (by omega)]
    rfl
theorem plC {C : Cx} {h : pH} : ∀ {l : List Mb} {m p c : Nat}, msC C h l m p c → ∀ (i : Nat) (x : Nat × Nat), (l.flatMap (fun b => b.2.2.2.2.1))[i]? = some x → rd h 37 (p + i) = tyc C x.1 ∧ rd h 36 (p + i) = C.2.1 x.2
  | [], m, p, c, _, i, x, hx => by cases hx
  | b :: l, m, p, c, ⟨q1, q2⟩, i, x, hx => by
    rw [List.flatMap_cons] at hx
    rcases Nat.lt_or_ge i (mbP b) with z | z
    · rw [List.getElem?_append_left z] at hx
      exact q1.2.2.2.2.2.2.1 i x hx
    · rw [List.getElem?_append_right z] at hx
      have := plC q2 (i - mbP b) x hx
      rw [show p + mbP b + (i - mbP b) = p + i by omega] at this
      exact this
theorem CPar.cm0 {T : Txt} {r : List (List Int32)} {n t' : Nat} {cs : List Cl} {h : pH} (hq : (tkS T).prog = ok cs t') (q : CPar (cxT T r n) cs h) (w : WS T r n h) : CM0 (tkW T, cs) (fun w => w ∈ fxW ++ r) (nmb r) h := by
  obtain ⟨q1, q2, q3, q4, q5, q6, q7, q8, q9, q10, q11, q12⟩ := q
  obtain ⟨g1, g2⟩ := Tks.prog_gb hq
  have k0 : tkK T n = 0 := q12
  have hms := csC_ms q2
  have hpl : (Pgm.ps (tkW T, cs)).length = csP cs := by
    show ((cs.flatMap (fun x => x.2.2.2)).flatMap (fun b => b.2.2.2.2.1)).length = _
    rw [flat_len]
    clear q2 q3 q4 q5 q6 q7 q8 q9 q10 q11 q12 g1 hms hq
    induction cs with
    | nil => rfl
    | cons x cs ih => rw [List.flatMap_cons, msP_app, ih]; rfl
  have tyd : ∀ y, tyW (tkS T) y → tyD (fun w => w ∈ fxW ++ r) (tkW T, cs) y := by
    intro y hy
    rcases hy with z | z
    · exact Or.inl (by omega)
    · exact Or.inr (w.word k0 z.2)
  have mem : ∀ (m : Nat) (b : Mb), (Pgm.ms (tkW T, cs))[m]? = some b → GM (tkS T) b := by
    intro m b hb
    obtain ⟨x, x1, x2⟩ := List.mem_flatMap.mp (List.mem_of_getElem? hb)
    exact (g1 x x1).2.2 b x2
  refine ⟨by rw [hpl]; exact q5, by rw [hpl]; omega, fun m b hb => ?_, fun i x hx => ?_⟩
  · have := msC_get hms hb
    rw [Nat.zero_add, Nat.zero_add] at this
    refine ⟨?_, by rw [this.2.2.1]; exact tyc_N T r n cs _, this.2.2.2.2.1, this.2.2.2.2.2.1⟩
    rcases (mem m b hb).1 with z | z
    · exact tyd _ z
    · exact Or.inl (by omega)
  · have := plC hms i x hx
    rw [Nat.zero_add] at this
    obtain ⟨b, b1, b2⟩ := List.mem_flatMap.mp (List.mem_of_getElem? hx)
    obtain ⟨m, hm⟩ := List.getElem?_of_mem b1
    obtain ⟨u1, u2⟩ := (mem m b hm).2.2.1 x b2
    exact ⟨tyd _ u1, w.word k0 u2, by rw [this.1]; exact tyc_N T r n cs _, this.2⟩
