/-! ===== THE CLASS' READER: parameters ===== -/
/-- at a member: mm members, pp parameters -/
def At8 (C : Cx) (r t c mm pp e : Nat) (p : Int32) (h : pH) : Prop := At7 C r t 0 c p (-1) h ∧ rd h 25 11 = Int32.ofNat mm ∧ rd h 25 14 = Int32.ofNat pp ∧ 3 * mm ≤ C.1.P t + e ∧ 3 * pp ≤ C.1.P t + e ∧ ∃ k, k ≤ 400 ∧ rd h 17 7 = Int32.ofNat k
def Er8 (C : Cx) (w : Nat) (h : pH) : Prop := Er7 C w 0 h ∧ (∃ m, m ≤ 1000 ∧ rd h 25 11 = Int32.ofNat m) ∧ (∃ p, p ≤ 1000 ∧ rd h 25 14 = Int32.ofNat p) ∧ ∃ k, k ≤ 400 ∧ rd h 17 7 = Int32.ofNat k
def eM : Nat → Nat → Prop := fun a k => eA 0 a k ∨ (17 ≤ a ∧ a ≤ 37)
theorem m7_eM {a k : Nat} (z : m7 a k) : eM a k := Or.inl (m7_e z)
theorem At8.sg {C : Cx} {r t c mm pp e : Nat} {p : Int32} {h : pH} (q : At8 C r t c mm pp e p h) : Sg h := q.1.sg
theorem At8.mv {C : Cx} {r t r' t' c mm pp e e' : Nat} {p p' : Int32} {h h' : pH} {A : Nat → Nat → Prop} {c' : Nat} (q : At8 C r t c mm pp e p h) (a : At7 C r' t' 0 c' p' (-1) h') (g : Chg A h h') (hA : ∀ k, ¬ A 25 k) (h17 : ¬ A 17 7) (hP : C.1.P t + e ≤ C.1.P t' + e') : At8 C r' t' c' mm pp e' p' h' := by
  obtain ⟨k, k1, k2⟩ := q.2.2.2.2.2
  refine ⟨a, ?_, ?_, by have := q.2.2.2.1; omega, by have := q.2.2.2.2.1; omega, k, k1, ?_⟩
  · rw [g.2.2.1 _ _ (hA 11)]; exact q.2.1
  · rw [g.2.2.1 _ _ (hA 14)]; exact q.2.2.1
  · rw [g.2.2.1 _ _ h17]; exact k2
theorem At8.er {C : Cx} {r t c mm pp e w : Nat} {p : Int32} {h h' : pH} {A : Nat → Nat → Prop} (he : e ≤ 1) (q : At8 C r t c mm pp e p h) (a : Er7 C w 0 h') (g : Chg A h h') (hA : ∀ k, ¬ A 25 k) (h17 : ¬ A 17 7) : Er8 C w h' := by
  obtain ⟨k, k1, k2⟩ := q.2.2.2.2.2
  have hP := q.1.1.2.2.1 t
  refine ⟨a, ⟨mm, by have := q.2.2.2.1; omega, ?_⟩, ⟨pp, by have := q.2.2.2.2.1; omega, ?_⟩, k, k1, ?_⟩
  · rw [g.2.2.1 _ _ (hA 11)]; exact q.2.1
  · rw [g.2.2.1 _ _ (hA 14)]; exact q.2.2.1
  · rw [g.2.2.1 _ _ h17]; exact k2
theorem Er8.mv {C : Cx} {w : Nat} {h h' : pH} {A : Nat → Nat → Prop} (q : Er8 C w h) (a : Er7 C w 0 h') (g : Chg A h h') (hA : ∀ k, ¬ A 25 k) (h17 : ¬ A 17 7) : Er8 C w h' := by
  obtain ⟨q1, ⟨m, m1, m2⟩, ⟨p, p1, p2⟩, k, k1, k2⟩ := q
  refine ⟨a, ⟨m, m1, ?_⟩, ⟨p, p1, ?_⟩, k, k1, ?_⟩
  · rw [g.2.2.1 _ _ (hA 11)]; exact m2
  · rw [g.2.2.1 _ _ (hA 14)]; exact p2
  · rw [g.2.2.1 _ _ h17]; exact k2
theorem m7_25 (k : Nat) : ¬ m7 25 k := by unfold m7; omega
theorem m7_17 : ¬ m7 17 7 := by unfold m7; omega
theorem eA_25 (k : Nat) : ¬ eA 0 25 k := by unfold eA; omega
theorem eA_17 : ¬ eA 0 17 7 := by unfold eA; omega
/-- what reading parameters of member m may change, from parameter p on -/
def pnA (m p : Nat) : Nat → Nat → Prop := fun a k => m7 a k ∨ ((a = 36 ∨ a = 37) ∧ p ≤ k) ∨ (a = 25 ∧ k = 14) ∨ (a = 32 ∧ k = m)
theorem pnA_e {m p a k : Nat} (z : pnA m p a k) : eM a k := by unfold pnA m7 at z; unfold eM eA; omega
theorem pnA_le {m p p' a k : Nat} (h : p ≤ p') (z : pnA m p' a k) : pnA m p a k := by unfold pnA at z ⊢; unfold m7 at z ⊢; omega
theorem paA_n {m p a k : Nat} (z : paA m p a k) : pnA m p a k := by unfold paA at z; unfold pnA; omega
theorem Er8.addParameter {C : Cx} {N w : Nat} {h : pH} (q : Er8 C w h) (ty nm : Int32) : ∃ h', fX6_addParameter N 25 ty nm h = some h' ∧ Er8 C w h' ∧ Chg eM h h' := by
  obtain ⟨q1, ⟨m, m1, m2⟩, ⟨p, p1, p2⟩, k, k1, k2⟩ := id q
  rcases e6_addParameter_any (N := N) ty nm q1.sg m2 p2 m1 p1 with e | ⟨m', hm', hp, e⟩
  · exact ⟨h, e, q, Chg.refl _ _⟩
  · have g := paH_chg h m' p ty nm
    refine ⟨_, e, ⟨q1.of g (fun a k ha => by unfold paA; omega) (fun k hk => by unfold paA; omega) (by unfold paA; omega) (fun a i a1 a2 a3 => by omega), ⟨m, m1, ?_⟩, ⟨p + 1, by omega, (paH_rd q1.sg m' p ty nm).2.2.1⟩, k, k1, ?_⟩, g.mono (fun a k z => by unfold paA at z; unfold eM; omega)⟩
    · rw [g.2.2.1 _ _ (by unfold paA; omega)]; exact m2
    · rw [g.2.2.1 _ _ (by unfold paA; omega)]; exact k2
theorem parameter_err {C : Cx} {N w : Nat} {h0 h : pH} (q : Er8 C w h) (g : Chg eM h0 h) : ∃ h', fX7_readParameter N 46 h = some h' ∧ Er8 C w h' ∧ Chg eM h0 h' := by
  obtain ⟨x, e2⟩ := q.1.takeName (N := N)
  obtain ⟨h', e3, q3, c3⟩ := q.addParameter (N := N) (-6) x
  refine ⟨h', ?_, q3, g.trans c3⟩
  unfold fX7_readParameter
  rw [if_pos (o_46 q.1.sg), q.1.takeType, Option.bind_some]
  dsimp only
  rw [R_46_2 q.1.sg, Option.bind_some, e2, Option.bind_some]
  dsimp only
  rw [e3, Option.bind_some]
theorem parameter_run {C : Cx} {N r t c m pp y : Nat} {p : Int32} {h : pH} (hC : NmC C) (q : At8 C r t c (m + 1) pp 0 p h) (hy : C.1.ty t = some y) (h22 : C.1.K (t + 1) = 22) : ∃ h', fX7_readParameter N 46 h = some h' ∧ At8 C r (t + 2) c (m + 1) (pp + 1) 1 p h' ∧ rd h' 36 pp = C.2.1 (t + 1) ∧ rd h' 37 pp = tyc C y ∧ rd h' 32 m = rd h 32 m + 1 ∧ Chg (pnA m pp) h h' := by
  obtain ⟨q1, q2, q3, q4, q5, k, k1, k2⟩ := id q
  have hP := q1.1.2.2.1 (t + 2)
  have kt0 : C.1.K t ≠ 0 := by
    intro z
    unfold Tks.ty at hy
    rw [z, if_neg (by decide), if_neg (by decide), if_neg (by decide), if_neg (by decide)] at hy
    cases hy
  have hm0 := C.1.mono t kt0
  have hm1 : C.1.P (t + 1) < C.1.P (t + 2) := C.1.mono (t + 1) (by rw [h22]; decide)
  obtain ⟨h1, e1, a1, c1⟩ := e7_takeType (N := N) hC q1 hy
  obtain ⟨h2, e2, a2, c2⟩ := e7_takeName (N := N) a1 h22
  have c12 := c1.trans c2
  have r11 : rd h2 25 11 = Int32.ofNat (m + 1) := by rw [c12.2.2.1 _ _ (m7_25 _)]; exact q2
  have r14 : rd h2 25 14 = Int32.ofNat pp := by rw [c12.2.2.1 _ _ (m7_25 _)]; exact q3
  have g := paH_chg h2 m pp (tyc C y) (C.2.1 (t + 1))
  obtain ⟨g1, g2, g3, g4⟩ := paH_rd a2.sg m pp (tyc C y) (C.2.1 (t + 1))
  refine ⟨_, ?_, ⟨a2.of g (fun a k ha => by unfold paA; omega) (fun k hk => by unfold paA; omega) (fun k hk => by unfold paA; omega) (fun a i a1 a2 a3 => by omega), ?_, g3, by show 3 * (m + 1) ≤ C.1.P (t + 2) + 1; omega, ?_, k, k1, ?_⟩, g1, g2, ?_, (c12.mono (fun a k z => Or.inl z)).trans (g.mono (fun a k z => paA_n z))⟩
  · unfold fX7_readParameter
    rw [if_pos (o_46 q1.sg), e1, Option.bind_some]
    dsimp only
    rw [R_46_2 a1.sg, Option.bind_some, e2, Option.bind_some]
    dsimp only
    rw [e6_addParameter _ _ a2.sg r11 r14 (by omega) (by omega), Option.bind_some]
  · rw [g.2.2.1 _ _ (by unfold paA; omega)]; exact r11
  · show 3 * (pp + 1) ≤ C.1.P (t + 2) + 1
    omega
  · rw [g.2.2.1 _ _ (by unfold paA; omega), c12.2.2.1 _ _ m7_17]; exact k2
  · rw [g4, c12.2.2.1 _ _ (by unfold m7; omega)]
theorem parameter_no {C : Cx} {N r t c mm pp : Nat} {p : Int32} {h : pH} (hC : NmC C) (q : At8 C r t c mm pp 0 p h) (hno : C.1.ty t = none ∨ ((C.1.ty t).isSome ∧ C.1.K (t + 1) ≠ 22)) : ∃ h', fX7_readParameter N 46 h = some h' ∧ Er8 C (if C.1.ty t = none then C.1.P t else C.1.P (t + 1)) h' ∧ Chg eM h h' := by
  rcases hy : C.1.ty t with _ | y
  · rw [if_pos rfl]
    obtain ⟨x, h1, e1, a1, c1⟩ := e7_takeType_no (N := N) q.1 hy
    have b1 := q.er (by omega) a1 c1 m7_25 m7_17
    obtain ⟨x2, e2⟩ := a1.takeName (N := N)
    obtain ⟨h', e3, q3, c3⟩ := b1.addParameter (N := N) x x2
    refine ⟨h', ?_, q3, (c1.mono (fun a k z => m7_eM z)).trans c3⟩
    unfold fX7_readParameter
    rw [if_pos (o_46 q.sg), e1, Option.bind_some]
    dsimp only
    rw [R_46_2 a1.sg, Option.bind_some, e2, Option.bind_some]
    dsimp only
    rw [e3, Option.bind_some]
  · rw [if_neg (by intro z; cases z)]
    have h22 : C.1.K (t + 1) ≠ 22 := by
      rcases hno with z | z
      · rw [hy] at z; cases z
      · exact z.2
    obtain ⟨h1, e1, a1, c1⟩ := e7_takeType (N := N) hC q.1 hy
    obtain ⟨x2, h2, e2, a2, c2⟩ := e7_takeName_no (N := N) a1 h22
    have b2 := q.er (by omega) a2 (c1.trans c2) m7_25 m7_17
    obtain ⟨h', e3, q3, c3⟩ := b2.addParameter (N := N) (tyc C y) x2
    refine ⟨h', ?_, q3, ((c1.trans c2).mono (fun a k z => m7_eM z)).trans c3⟩
    unfold fX7_readParameter
    rw [if_pos (o_46 q.sg), e1, Option.bind_some]
    dsimp only
    rw [R_46_2 a1.sg, Option.bind_some, e2, Option.bind_some]
    dsimp only
    rw [e3, Option.bind_some]
/-- the parameters stand in the tables -/
def pcR (C : Cx) (h : pH) (ps : List (Nat × Nat)) (p : Nat) : Prop := ∀ i x, ps[i]? = some x → rd h 37 (p + i) = tyc C x.1 ∧ rd h 36 (p + i) = C.2.1 x.2
theorem pcR.snoc {C : Cx} {h h' : pH} {ps : List (Nat × Nat)} {p : Nat} {x : Nat × Nat} (q : pcR C h ps p) (g : ∀ a k, (a = 36 ∨ a = 37) → k < p + ps.length → rd h' a k = rd h a k) (h1 : rd h' 37 (p + ps.length) = tyc C x.1) (h2 : rd h' 36 (p + ps.length) = C.2.1 x.2) : pcR C h' (ps ++ [x]) p := by
  intro i y hi
  rcases Nat.lt_trichotomy i ps.length with z | z | z
  · rw [List.getElem?_append_left z] at hi
    rw [g 37 _ (Or.inr rfl) (by omega), g 36 _ (Or.inl rfl) (by omega)]
    exact q i y hi
  · subst z
    rw [List.getElem?_append_right (Nat.le_refl _), Nat.sub_self] at hi
    obtain rfl := Option.some.inj hi
    exact ⟨h1, h2⟩
  · rw [List.getElem?_eq_none (by rw [List.length_append]; show ps.length + 1 ≤ i; omega)] at hi
    cases hi
theorem pcR.chg {C : Cx} {h h' : pH} {ps : List (Nat × Nat)} {p : Nat} (q : pcR C h ps p) (g : ∀ a k, (a = 36 ∨ a = 37) → k < p + ps.length → rd h' a k = rd h a k) : pcR C h' ps p := by
  intro i y hi
  have := (List.getElem?_eq_some_iff.mp hi).1
  rw [g 37 _ (Or.inr rfl) (by omega), g 36 _ (Or.inl rfl) (by omega)]
  exact q i y hi
/-- what a reading of parameters comes to -/
def PP8 (C : Cx) (q : Pr (List (Nat × Nat))) (r c m p0 : Nat) (p : Int32) (h : pH) (res : Option pH) : Prop := (∀ ps t', q = ok ps t' → ∃ h', res = some h' ∧ At8 C r t' c (m + 1) (p0 + ps.length) 0 p h' ∧ rd h' 32 m = Int32.ofNat ps.length ∧ pcR C h' ps p0 ∧ Chg (pnA m p0) h h') ∧ (∀ w, q = no w → ∃ h', res = some h' ∧ Er8 C w h' ∧ Chg eM h h')
def Tks.parn (S : Tks) (f : Nat) (l : List (Nat × Nat)) (t : Nat) : Pr (List (Nat × Nat)) := if S.K t = 44 then S.parl f l (t + 1) else if S.K t = 41 then ok l (t + 1) else no (S.P t)
theorem Tks.parl_succ (S : Tks) (f : Nat) (l : List (Nat × Nat)) (t : Nat) : S.parl (f + 1) l t = match S.ty t with
    | none => no (S.P t)
    | some y => if S.K (t + 1) ≠ 22 then no (S.P (t + 1)) else S.parn f (l ++ [(y, t + 1)]) (t + 2) := rfl
theorem par_51 {C : Cx} {N w : Nat} {h0 h : pH} (q : Er8 C w h) (g : Chg eM h0 h) : ∃ h', fX7_readParameters_51 N 46 h = some h' ∧ Er8 C w h' ∧ Chg eM h0 h' := by
  obtain ⟨h4, e4, q4, c4⟩ := q.1.close (N := N) (k := 41) (by decide)
  refine ⟨h4, ?_, q.mv q4 c4 m7_25 m7_17, g.trans (c4.mono (fun a k z => m7_eM z))⟩
  unfold fX7_readParameters_51
  rw [e4, Option.bind_some]
theorem par_21 {C : Cx} {N n w : Nat} {v : Int32} {h0 h : pH} (q : Er8 C w h) (g : Chg eM h0 h) : ∃ h', fX7_readParameters_21 N (n + 1) 46 v h = some h' ∧ Er8 C w h' ∧ Chg eM h0 h' := by
  obtain ⟨h', e, z⟩ := par_51 (N := N) q g
  refine ⟨h', ?_, z⟩
  rw [fX7_readParameters_21]
  split
  · exact e
  · rw [g_46_9 q.1.sg, Option.bind_some, q.1.kind, if_neg (by decide)]
    exact e
theorem par_loop {C : Cx} {N r c m p0 : Nat} {p : Int32} (hC : NmC C) (hN : 3200 < N) (hr : r + 1 ≤ 30) : ∀ (f n g t : Nat) (l : List (Nat × Nat)) (h : pH), C.1.E < t + f + 1 → C.2.2 + 1 < t + n → g ≤ t → At8 C r t c (m + 1) (p0 + l.length) 1 p h → rd h 32 m = Int32.ofNat l.length → pcR C h l p0 → PP8 C (C.1.parn f l t) (r + 1) c m p0 p h (fX7_readParameters_21 N n 46 (Int32.ofNat g) h)
  | f, n, g, t, l, h, hf, hn, hg, q, h32, hl => by
    have hE := q.1.le_E
    have hC3 := q.1.1.2.1
    have ht := q.1.2.1
    obtain ⟨n', rfl⟩ : ∃ n', n = n' + 1 := ⟨n - 1, by omega⟩
    rw [fX7_readParameters_21, show (3100 : Int32) = Int32.ofNat 3100 from rfl, ifLe (by decide) (by omega), if_neg (by omega), g_46_9 q.sg, Option.bind_some, q.1.kind]
    unfold Tks.parn
    by_cases h44 : C.1.K t = 44
    · rw [if_pos h44, if_pos h44]
      have htl := q.1.lt h44 (by decide) (by decide)
      obtain ⟨f', rfl⟩ : ∃ f', f = f' + 1 := ⟨f - 1, by omega⟩
      have hmo := C.1.mono t (by rw [h44]; decide)
      obtain ⟨h1, e1, a1, c1⟩ := e7_advance (N := N) q.1 htl
      have q1 : At8 C r (t + 1) c (m + 1) (p0 + l.length) 0 p h1 := q.mv a1 c1 m7_25 m7_17 (by omega)
      rw [e1, Option.bind_some, Tks.parl_succ, i_add1]
      have fin : ∀ w h2, fX7_readParameter N 46 h1 = some h2 → Er8 C w h2 → Chg eM h1 h2 → PP8 C (no w) (r + 1) c m p0 p h ((fX7_readParameter N 46 h1).bind fun h6 => fX7_readParameters_21 N n' 46 (Int32.ofNat (g + 1)) h6) := by
        intro w h2 e2 b2 c2
        obtain ⟨n'', rfl⟩ : ∃ n'', n' = n'' + 1 := ⟨n' - 1, by omega⟩
        obtain ⟨h3, e3, b3, c3⟩ := par_21 (N := N) (n := n'') (v := Int32.ofNat (g + 1)) b2 ((c1.mono (fun a k z => m7_eM z)).trans c2)
        refine ⟨fun ps t' z => (by cases z), fun w' z => ?_⟩
        obtain rfl := Sum.inr.inj z
        exact ⟨h3, by rw [e2, Option.bind_some, e3], b3, c3⟩
      rcases hy : C.1.ty (t + 1) with _ | y
      · obtain ⟨h2, e2, b2, c2⟩ := parameter_no (N := N) hC q1 (Or.inl hy)
        rw [if_pos hy] at b2
        exact fin _ h2 e2 b2 c2
      · dsimp only
        by_cases h22 : C.1.K (t + 1 + 1) ≠ 22
        · rw [if_pos h22]
          obtain ⟨h2, e2, b2, c2⟩ := parameter_no (N := N) hC q1 (Or.inr ⟨by rw [hy]; rfl, h22⟩)
          rw [if_neg (by rw [hy]; intro z; cases z)] at b2
          exact fin _ h2 e2 b2 c2
        · rw [if_neg h22]
          have h22 := Decidable.not_not.mp h22
          obtain ⟨h2, e2, q2, r36, r37, r32, c2⟩ := parameter_run (N := N) hC q1 hy h22
          have hlen : (l ++ [(y, t + 1 + 1)]).length = l.length + 1 := by rw [List.length_append]; rfl
          have IH := par_loop (p0 := p0) hC hN hr f' n' (g + 1) (t + 1 + 2) (l ++ [(y, t + 1 + 1)]) h2 (by omega) (by omega) (by omega) (by rw [hlen, ← Nat.add_assoc]; exact q2) (by rw [r32, c1.2.2.1 _ _ (by unfold m7; omega), h32, i_add1, hlen]) (hl.snoc (fun a k ha hk => by rw [c2.2.2.1 _ _ (by unfold pnA m7; omega), c1.2.2.1 _ _ (by unfold m7; omega)]) r37 r36)
          rw [e2, Option.bind_some]
          have c12 : Chg (pnA m p0) h h2 := (c1.mono (fun a k z => Or.inl z)).trans (c2.mono (fun a k z => pnA_le (by omega) z))
          refine ⟨fun ps t' z => ?_, fun w z => ?_⟩
          · obtain ⟨h', x1, x2, x3, x4, x5⟩ := IH.1 ps t' z
            exact ⟨h', x1, x2, x3, x4, c12.trans x5⟩
          · obtain ⟨h', x1, x2, x3⟩ := IH.2 w z
            exact ⟨h', x1, x2, (c12.mono (fun a k z => pnA_e z)).trans x3⟩
    · rw [if_neg h44, if_neg h44]
      unfold fX7_readParameters_51
      by_cases h41 : C.1.K t = 41
      · rw [if_pos h41]
        obtain ⟨h4, e4, q4, c4⟩ := e7_close (N := N) q.1 hr h41 (by decide) (by decide)
        have hmo := C.1.mono t (by rw [h41]; decide)
        refine ⟨fun y u z => ?_, fun w z => (by cases z)⟩
        obtain ⟨rfl, rfl⟩ := ok_inj z
        exact ⟨h4, by rw [e4, Option.bind_some], q.mv q4 c4 m7_25 m7_17 (by omega), by rw [c4.2.2.1 _ _ (by unfold m7; omega)]; exact h32, hl.chg (fun a k ha hk => c4.2.2.1 _ _ (by unfold m7; omega)), c4.mono (fun a k z => Or.inl z)⟩
      · rw [if_neg h41]
        obtain ⟨h4, e4, q4, c4⟩ := e7_close_no (N := N) q.1 h41
        refine ⟨fun y u z => (no_ok z).elim, fun w z => ?_⟩
        obtain rfl := Sum.inr.inj z
        exact ⟨h4, by rw [e4, Option.bind_some], q.er (by omega) q4 c4 m7_25 m7_17, c4.mono (fun a k z => m7_eM z)⟩
theorem pars_run {C : Cx} {N r t c m p0 : Nat} {p : Int32} {h : pH} (hC : NmC C) (hN : 3200 < N) (q : At8 C r t c (m + 1) p0 1 p h) (h32 : rd h 32 m = 0) : PP8 C (C.1.pars r t) r c m p0 p h (fX7_readParameters N 46 h) := by
  have hE := q.1.le_E
  have hC3 := q.1.1.2.1
  obtain ⟨n, hn⟩ : ∃ n, N = n + 1 := ⟨N - 1, by omega⟩
  unfold fX7_readParameters Tks.pars
  rw [if_pos (o_46 q.sg)]
  by_cases hk : C.1.K t ≠ 40 ∨ r = 0
  · rw [if_pos hk]
    obtain ⟨h1, e1, a1, c1⟩ := e7_open_no (N := N) q.1 hk
    have b1 := q.er (by omega) a1 c1 m7_25 m7_17
    obtain ⟨h2, e2, b2, c2⟩ := parameter_err (N := N) b1 (c1.mono (fun a k z => m7_eM z))
    obtain ⟨h3, e3, b3, c3⟩ := par_21 (N := N) (n := n) (v := 0) b2 c2
    rw [← hn] at e3
    refine ⟨fun ps t' z => (no_ok z).elim, fun w z => ?_⟩
    obtain rfl := Sum.inr.inj z
    exact ⟨h3, by rw [e1, Option.bind_some, g_46_9 a1.sg, Option.bind_some, a1.kind, if_neg (by decide), e2, Option.bind_some, e3], b3, c3⟩
  · rw [if_neg hk]
    have hka : C.1.K t = 40 := Decidable.not_not.mp (fun z => hk (Or.inl z))
    obtain ⟨r', rfl⟩ : ∃ r', r = r' + 1 := ⟨r - 1, by omega⟩
    have hr := q.1.2.2.1
    have htl := q.1.lt hka (by decide) (by decide)
    have hmo := C.1.mono t (by rw [hka]; decide)
    obtain ⟨h1, e1, a1, c1⟩ := e7_open (N := N) q.1 hka (by decide) (by decide)
    have q1 : At8 C r' (t + 1) c (m + 1) p0 0 p h1 := q.mv a1 c1 m7_25 m7_17 (by omega)
    rw [e1, Option.bind_some, g_46_9 a1.sg, Option.bind_some, a1.kind]
    by_cases h41 : C.1.K (t + 1) = 41
    · rw [if_pos h41, if_pos h41]
      obtain ⟨h4, e4, q4, c4⟩ := e7_close (N := N) a1 hr h41 (by decide) (by decide)
      have hmo2 : C.1.P (t + 1) < C.1.P (t + 2) := C.1.mono (t + 1) (by rw [h41]; decide)
      refine ⟨fun y u z => ?_, fun w z => (by cases z)⟩
      obtain ⟨rfl, rfl⟩ := ok_inj z
      refine ⟨h4, ?_, q1.mv q4 c4 m7_25 m7_17 (by show C.1.P (t + 1) + 0 ≤ C.1.P (t + 2) + 0; omega), ?_, fun i x hi => (by cases hi), (c1.trans c4).mono (fun a k z => Or.inl z)⟩
      · unfold fX7_readParameters_51
        rw [e4, Option.bind_some]
      · rw [(c1.trans c4).2.2.1 _ _ (by unfold m7; omega)]; exact h32
    · rw [if_neg h41, if_neg h41]
      obtain ⟨f, hf⟩ : ∃ f, C.1.E - t = f + 1 := ⟨C.1.E - t - 1, by omega⟩
      rw [hf, Tks.parl_succ]
      have fin : ∀ w h2, fX7_readParameter N 46 h1 = some h2 → Er8 C w h2 → Chg eM h1 h2 → PP8 C (no w) (r' + 1) c m p0 p h ((fX7_readParameter N 46 h1).bind fun h10 => fX7_readParameters_21 N N 46 0 h10) := by
        intro w h2 e2 b2 c2
        obtain ⟨h3, e3, b3, c3⟩ := par_21 (N := N) (n := n) (v := 0) b2 ((c1.mono (fun a k z => m7_eM z)).trans c2)
        rw [← hn] at e3
        refine ⟨fun ps t' z => (by cases z), fun w' z => ?_⟩
        obtain rfl := Sum.inr.inj z
        exact ⟨h3, by rw [e2, Option.bind_some, e3], b3, c3⟩
      rcases hy : C.1.ty (t + 1) with _ | y
      · obtain ⟨h2, e2, b2, c2⟩ := parameter_no (N := N) hC q1 (Or.inl hy)
        rw [if_pos hy] at b2
        exact fin _ h2 e2 b2 c2
      · dsimp only
        by_cases h22 : C.1.K (t + 1 + 1) ≠ 22
        · rw [if_pos h22]
          obtain ⟨h2, e2, b2, c2⟩ := parameter_no (N := N) hC q1 (Or.inr ⟨by rw [hy]; rfl, h22⟩)
          rw [if_neg (by rw [hy]; intro z; cases z)] at b2
          exact fin _ h2 e2 b2 c2
        · rw [if_neg h22]
          have h22 := Decidable.not_not.mp h22
          obtain ⟨h2, e2, q2, r36, r37, r32, c2⟩ := parameter_run (N := N) hC q1 hy h22
          have IH := par_loop (p0 := p0) hC hN hr f N 0 (t + 1 + 2) [(y, t + 1 + 1)] h2 (by omega) (by omega) (by omega) q2 (by rw [r32, c1.2.2.1 _ _ (by unfold m7; omega), h32]; rfl) (pcR.snoc (ps := []) (p := p0) (x := (y, t + 1 + 1)) (h := h1) (fun i x hi => (by cases hi)) (fun a k ha hk => by rw [c2.2.2.1 _ _ (by unfold pnA m7; have : ([] : List (Nat × Nat)).length = 0 := rfl; omega)]) r37 r36)
          rw [show ([] : List (Nat × Nat)) ++ [(y, t + 1 + 1)] = [(y, t + 1 + 1)] from rfl, e2, Option.bind_some]
          have c12 : Chg (pnA m p0) h h2 := (c1.mono (fun a k z => Or.inl z)).trans c2
          refine ⟨fun ps t' z => ?_, fun w z => ?_⟩
          · obtain ⟨h', x1, x2, x3, x4, x5⟩ := IH.1 ps t' z
            exact ⟨h', x1, x2, x3, x4, c12.trans x5⟩
          · obtain ⟨h', x1, x2, x3⟩ := IH.2 w z
            exact ⟨h', x1, x2, (c12.mono (fun a k z => pnA_e z)).trans x3⟩
