/-! ===== THE CLASS' READER: classes, the whole ===== -/
/-- the word class is long -/
def KlC (C : Cx) : Prop := ∀ i, C.1.K i = 1 → C.1.P i + 5 ≤ C.1.P (i + 1)
theorem read_122 {C : Cx} {N w : Nat} {h : pH} (q : Er8 C w h) : fX7_read_122 N 46 h = some (Int32.ofNat w, h) := by
  unfold fX7_read_122
  rw [q.1.take (by decide), Option.bind_some, g_46_11 q.1.sg, Option.bind_some, q.1.2.2.2.2.1]
theorem read_65_err {C : Cx} {N n w : Nat} {v2 v3 v4 v5 : Int32} {h0 h : pH} (hN : 0 < N) (q : Er8 C w h) (g : Chg eM h0 h) : ∃ h', fX7_read_65 N (fX7_read_8 N (n + 1)) 46 v2 v3 v4 v5 h = some (Int32.ofNat w, h') ∧ Er8 C w h' ∧ Chg eM h0 h' := by
  obtain ⟨h1, e1, b1, c1⟩ := cl1_err (N := N) (v3 := v3) (v4 := v4) (v5 := v5) hN q g
  refine ⟨h1, ?_, b1, c1⟩
  unfold cl1 at e1
  unfold fX7_read_65
  obtain ⟨t3, f3, e1⟩ := Option.bind_eq_some_iff.mp e1
  obtain ⟨t4, f4, e1⟩ := Option.bind_eq_some_iff.mp e1
  obtain ⟨t5, f5, e1⟩ := Option.bind_eq_some_iff.mp e1
  obtain ⟨h6, f6, e1⟩ := Option.bind_eq_some_iff.mp e1
  obtain ⟨h7, f7, e1⟩ := Option.bind_eq_some_iff.mp e1
  obtain ⟨t8, f8, e1⟩ := Option.bind_eq_some_iff.mp e1
  obtain ⟨t9, f9, e1⟩ := Option.bind_eq_some_iff.mp e1
  obtain ⟨t10, f10, e1⟩ := Option.bind_eq_some_iff.mp e1
  rw [f3, Option.bind_some, f4, Option.bind_some, f5, Option.bind_some, f6, Option.bind_some, f7, Option.bind_some, f8, Option.bind_some, f9, Option.bind_some, f10, Option.bind_some, e1, Option.bind_some, g_46_9 b1.1.sg, Option.bind_some, b1.1.kind, if_neg (by decide)]
  unfold fX7_read_115
  rw [fX7_read_8]
  split
  · exact read_122 b1
  · rw [if_pos rfl]
    exact read_122 b1
theorem read_65_ok {N : Nat} {k8 : Nat → Int32 → Int32 → pH → Option (Int32 × pH)} {v2 v3 v4 v5 : Int32} {h h1 : pH} (hs : Sg h1) (e1 : cl1 N v3 v4 v5 h = some h1) : fX7_read_65 N k8 46 v2 v3 v4 v5 h = k8 46 (if rd h1 46 9 = 1 then 1 else 0) (v2 + 1) h1 := by
  unfold cl1 at e1
  unfold fX7_read_65
  obtain ⟨t3, f3, e1⟩ := Option.bind_eq_some_iff.mp e1
  obtain ⟨t4, f4, e1⟩ := Option.bind_eq_some_iff.mp e1
  obtain ⟨t5, f5, e1⟩ := Option.bind_eq_some_iff.mp e1
  obtain ⟨h6, f6, e1⟩ := Option.bind_eq_some_iff.mp e1
  obtain ⟨h7, f7, e1⟩ := Option.bind_eq_some_iff.mp e1
  obtain ⟨t8, f8, e1⟩ := Option.bind_eq_some_iff.mp e1
  obtain ⟨t9, f9, e1⟩ := Option.bind_eq_some_iff.mp e1
  obtain ⟨t10, f10, e1⟩ := Option.bind_eq_some_iff.mp e1
  rw [f3, Option.bind_some, f4, Option.bind_some, f5, Option.bind_some, f6, Option.bind_some, f7, Option.bind_some, f8, Option.bind_some, f9, Option.bind_some, f10, Option.bind_some, e1, Option.bind_some, g_46_9 hs, Option.bind_some]
  unfold fX7_read_115
  split <;> rfl
/-- a turn from its name on -/
def cl0 (N : Nat) (k : Int32 → Int32 → Int32 → pH → Option (Int32 × pH)) (h16 : pH) : Option (Int32 × pH) := (getR h16 46 7 0).bind fun t17 => (getR h16 t17 10 2).bind fun t18 => (getI h16 46 7 8).bind fun t19 => (ldI h16 t18 t19).bind fun t20 => (fX7_takeName N 46 h16).bind fun q21 => (getI q21.2 46 7 9).bind fun t22 => if t22 = 58 then (fX7_advance N 46 q21.2).bind fun h24 => (fX7_takeName N 46 h24).bind fun q25 => k t20 q21.1 q25.1 q25.2 else k t20 q21.1 (-1) q21.2
theorem read_8_turn {N n g : Nat} {h h16 : pH} (hg : g < 3100) (e : fX7_take N 46 1 h = some h16) : fX7_read_8 N (n + 1) 46 1 (Int32.ofNat g) h = cl0 N (fun a b c x => fX7_read_65 N (fX7_read_8 N n) 46 (Int32.ofNat g) a b c x) h16 := by
  rw [fX7_read_8, show (3100 : Int32) = Int32.ofNat 3100 from rfl, ifLe (by decide) (by omega), if_neg (by omega), if_neg (by decide), e, Option.bind_some]
  rfl
theorem cl0_err {C : Cx} {N n w : Nat} {v : Int32} {h0 h : pH} (hN : 0 < N) (q : Er8 C w h) (g : Chg eM h0 h) : ∃ h', cl0 N (fun a b c x => fX7_read_65 N (fX7_read_8 N (n + 1)) 46 v a b c x) h = some (Int32.ofNat w, h') ∧ Er8 C w h' ∧ Chg eM h0 h' := by
  obtain ⟨t0, t01, t02⟩ := q.1.2.2.1
  have hn := q.1.1.2.1
  obtain ⟨x, e1⟩ := q.1.takeName (N := N)
  obtain ⟨h1, e2, b2, c2⟩ := read_65_err (N := N) (n := n) (v2 := v) (v3 := rd h 11 t0) (v4 := x) (v5 := -1) hN q g
  refine ⟨h1, ?_, b2, c2⟩
  unfold cl0
  rw [R_46_0 q.1.sg, Option.bind_some, R_8_2 q.1.sg, Option.bind_some, g_46_8 q.1.sg, Option.bind_some, t02, L_11 q.1.sg (by omega), Option.bind_some, e1, Option.bind_some]
  dsimp only
  rw [g_46_9 q.1.sg, Option.bind_some, q.1.kind, if_neg (by decide)]
  exact e2
theorem At9.er {C : Cx} {r t c mm pp n w : Nat} {p : Int32} {h h' : pH} {A : Nat → Nat → Prop} (q : At9 C r t c mm pp n p h) (a : Er7 C w 0 h') (g : Chg A h h') (hA : ∀ k, ¬ A 25 k) (h17 : ¬ A 17 7) : Er8 C w h' := q.1.er (by omega) a g hA h17
/-- what the reading of all classes comes to -/
def PL9 (C : Cx) (q : Pr (List Cl)) (c m p0 n : Nat) (h : pH) (res : Option (Int32 × pH)) : Prop := (∀ cs t', q = ok cs t' → ∃ h' p', res = some (-1, h') ∧ At9 C 30 t' (c + csK cs) (m + csM cs) (p0 + csP cs) (n + cs.length) p' h' ∧ csC C h' cs (5 + n) m p0 c ∧ Chg (kA (5 + n) m p0 c) h h') ∧ (∀ w, q = no w → ∃ h', res = some (Int32.ofNat w, h') ∧ w ≤ 3000 ∧ Chg eM h h')
theorem PL9.err {C : Cx} {w c m p0 n : Nat} {h h' : pH} {res : Option (Int32 × pH)} (e : res = some (Int32.ofNat w, h')) (b : Er8 C w h') (g : Chg eM h h') : PL9 C (no w) c m p0 n h res := by
  refine ⟨fun cs t' z => (by cases z), fun w' z => ?_⟩
  obtain rfl := Sum.inr.inj z
  exact ⟨h', e, b.1.2.2.2.2.2.1, g⟩
theorem PC9.to {C : Cx} {N n' g c m p0 n : Nat} {h0 h : pH} {q : Pr Cl} {v3 v4 v5 : Int32} {G : Cl → Nat → Pr (List Cl)} (hN : 0 < N) (pc : PC9 C q c m p0 n h (cl1 N v3 v4 v5 h)) (g0 : Chg (kA (5 + n) m p0 c) h0 h) (hG : ∀ x t' h' p', q = ok x t' → At9 C 30 t' (c + msK x.2.2.2) (m + x.2.2.2.length) (p0 + msP x.2.2.2) (n + 1) p' h' → clC C h' x (5 + n) m p0 c → Chg (kA (5 + n) m p0 c) h h' → PL9 C (G x t') c m p0 n h0 (fX7_read_8 N (n' + 1) 46 (if rd h' 46 9 = 1 then 1 else 0) (Int32.ofNat (g + 1)) h')) : PL9 C (q.bind G) c m p0 n h0 (fX7_read_65 N (fX7_read_8 N (n' + 1)) 46 (Int32.ofNat g) v3 v4 v5 h) := by
  rcases hq : q with ⟨x, t'⟩ | w
  · obtain ⟨h1, p1, e1, q1, x1, c1⟩ := pc.1 x t' hq
    rw [Pr.bind_ok, read_65_ok q1.1.sg e1, i_add1]
    exact hG x t' h1 p1 hq q1 x1 c1
  · obtain ⟨h1, e1, b1, c1⟩ := pc.2 w hq
    rw [Pr.bind_no, read_65_ok b1.1.sg e1, b1.1.kind, if_neg (by decide), fX7_read_8]
    refine PL9.err (h' := h1) ?_ b1 ((g0.mono (fun a k z => kA_e z)).trans c1)
    split
    · exact read_122 b1
    · rw [if_pos rfl]
      exact read_122 b1
theorem csM_cons (x : Cl) (xs : List Cl) : csM (x :: xs) = x.2.2.2.length + csM xs := rfl
theorem csP_cons (x : Cl) (xs : List Cl) : csP (x :: xs) = msP x.2.2.2 + csP xs := rfl
theorem csK_cons (x : Cl) (xs : List Cl) : csK (x :: xs) = msK x.2.2.2 + csK xs := rfl
theorem clss_run {C : Cx} {N : Nat} (hC : NmC C) (hK : KlC C) (hN : 3200 < N) : ∀ (f n' g t c m p0 n : Nat) (p : Int32) (h : pH), C.1.E < t + f → C.2.2 + 1 < t + n' → g ≤ t → At9 C 30 t c m p0 n p h → PL9 C (C.1.clss f t) c m p0 n h (fX7_read_8 N n' 46 1 (Int32.ofNat g) h)
  | 0, n', g, t, c, m, p0, n, p, h, hf, hn, hg, q => by
    have hE := q.1.1.le_E
    have ht := q.1.1.2.1
    omega
  | f + 1, n', g, t, c, m, p0, n, p, h, hf, hn, hg, q => by
    have hE := q.1.1.le_E
    have ht := q.1.1.2.1
    have hC3 := q.1.1.1.2.1
    obtain ⟨n'', rfl⟩ : ∃ n'', n' = n'' + 2 := ⟨n' - 2, by omega⟩
    have e0 : C.1.clss (f + 1) t = if C.1.K t ≠ 1 then no (C.1.P t) else (C.1.cls (t + 1)).bind fun c t' => if C.1.K t' = 0 then ok [c] t' else (C.1.clss f t').bind fun l t'' => ok (c :: l) t'' := rfl
    rw [e0]
    by_cases k1 : C.1.K t ≠ 1
    · rw [if_pos k1]
      obtain ⟨h1, e1, a1, c1⟩ := e7_take_no (N := N) q.1.1 k1
      obtain ⟨h2, e2, b2, c2⟩ := cl0_err (N := N) (n := n'') (v := Int32.ofNat g) (by omega) (q.er a1 c1 m7_25 m7_17) (c1.mono (fun a k z => m7_eM z))
      exact PL9.err (by rw [read_8_turn (by omega) e1]; exact e2) b2 c2
    rw [if_neg k1]
    have k1 := Decidable.not_not.mp k1
    have hkl := hK t k1
    obtain ⟨h1, e1, a1, c1⟩ := e7_take (N := N) q.1.1 k1 (by decide) (by decide)
    have ht1 := a1.2.1
    rw [read_8_turn (by omega) e1]
    unfold cl0 Tks.cls
    rw [R_46_0 a1.sg, Option.bind_some, R_8_2 a1.sg, Option.bind_some, g_46_8 a1.sg, Option.bind_some, a1.2.2.2.2.2.2.1, L_11 a1.sg (by omega), Option.bind_some, (a1.1.2.2.2.2.2.1 (t + 1) ht1).2.1]
    have er65 : ∀ {w : Nat} {h2 : pH} {v3 v4 v5 : Int32}, Er7 C w 0 h2 → Chg m7 h h2 → PL9 C (no w) c m p0 n h (fX7_read_65 N (fX7_read_8 N (n'' + 1)) 46 (Int32.ofNat g) v3 v4 v5 h2) := by
      intro w h2 v3 v4 v5 a2 c2
      obtain ⟨h3, e3, b3, c3⟩ := read_65_err (N := N) (n := n'') (v2 := Int32.ofNat g) (v3 := v3) (v4 := v4) (v5 := v5) (by omega) (q.er a2 c2 m7_25 m7_17) (c2.mono (fun a k z => m7_eM z))
      exact PL9.err e3 b3 c3
    -- what follows a class
    have nxt : ∀ (x : Cl) (t' : Nat) (h' : pH) (p' : Int32), t < t' → At9 C 30 t' (c + msK x.2.2.2) (m + x.2.2.2.length) (p0 + msP x.2.2.2) (n + 1) p' h' → clC C h' x (5 + n) m p0 c → Chg (kA (5 + n) m p0 c) h h' → PL9 C (if C.1.K t' = 0 then ok [x] t' else (C.1.clss f t').bind fun l t'' => ok (x :: l) t'') c m p0 n h (fX7_read_8 N (n'' + 1) 46 (if rd h' 46 9 = 1 then 1 else 0) (Int32.ofNat (g + 1)) h') := by
      intro x t' h' p' htt q' x' c'
      rw [q'.1.1.kind]
      have ht' := q'.1.1.2.1
      by_cases kk1 : C.1.K t' = 1
      · rw [if_pos kk1, if_neg (by rw [kk1]; decide)]
        have IH := clss_run hC hK hN f (n'' + 1) (g + 1) t' _ _ _ (n + 1) p' h' (by omega) (by omega) (by omega) q'
        refine ⟨fun cs u z => ?_, fun w z => ?_⟩
        · obtain ⟨l, u2, z1, z2⟩ := Pr.bind_eq_ok z
          obtain ⟨rfl, rfl⟩ := ok_inj z2
          obtain ⟨h3, p3, e3, q3, x3, c3⟩ := IH.1 l u2 z1
          refine ⟨h3, p3, e3, ?_, ⟨x'.chg (fun a y1 y2 => c3.2.2.1 _ _ (by unfold kA nA sA xA; omega)) (fun a i y1 y2 y3 y4 => c3.2.2.1 _ _ (by unfold kA nA sA xA; omega)) (fun a i ha hi => c3.2.2.1 _ _ (by unfold kA nA sA xA; omega)) (fun a i y1 y2 y3 y4 => c3.2.2.1 _ _ (by unfold kA nA sA xA; omega)), by rw [show 5 + n + 1 = 5 + (n + 1) by omega]; exact x3⟩, c'.trans (c3.mono (fun a k z => kA_le (by omega) (by omega) (by omega) (by omega) z))⟩
          rw [csM_cons, csP_cons, csK_cons, ← Nat.add_assoc, ← Nat.add_assoc, ← Nat.add_assoc, show n + (x :: l).length = n + 1 + l.length by show n + (l.length + 1) = _; omega]
          exact q3
        · rcases hz : C.1.clss f t' with ⟨l, u2⟩ | w'
          · rw [hz] at z; cases z
          · rw [hz] at z
            obtain rfl := Sum.inr.inj z
            obtain ⟨h3, e3, hw3, c3⟩ := IH.2 w' hz
            exact ⟨h3, e3, hw3, (c'.mono (fun a k z => kA_e z)).trans c3⟩
      · rw [if_neg kk1]
        have e8 : fX7_read_8 N (n'' + 1) 46 0 (Int32.ofNat (g + 1)) h' = fX7_read_122 N 46 h' := by
          rw [fX7_read_8]
          split
          · rfl
          · rw [if_pos rfl]
        rw [e8]
        unfold fX7_read_122
        by_cases kk0 : C.1.K t' = 0
        · rw [if_pos kk0]
          have htE : t' = C.2.2 := by
            rcases Nat.lt_or_ge t' C.2.2 with z | z
            · exact absurd kk0 (q'.1.1.1.2.2.2.1 t' z).1
            · omega
          have etake : fX7_take N 46 0 h' = some h' := by
            obtain ⟨z, z1, z2, z3, z4⟩ := q'.1.1.1.2.2.2.2.2.2
            have hz := z4 (by rw [← htE]; exact kk0)
            unfold fX7_take fX7_advance
            rw [if_pos (o_46 q'.1.sg), g_46_9 q'.1.sg, Option.bind_some, q'.1.1.kind, if_pos kk0, g_46_11 q'.1.sg, Option.bind_some, q'.1.1.2.2.2.2.2.2.2.2.2.1, if_pos rfl, g_46_8 q'.1.sg, Option.bind_some, R_46_0 q'.1.sg, Option.bind_some, g_8_3 q'.1.sg, Option.bind_some, q'.1.1.2.2.2.2.2.2.1, z1, i_add1, ifLe (by omega) (by omega), if_pos (show z ≤ t' + 1 by omega), if_pos (o_46 q'.1.sg), Option.bind_some]
          rw [etake, Option.bind_some, g_46_11 q'.1.sg, Option.bind_some, q'.1.1.2.2.2.2.2.2.2.2.2.1]
          refine ⟨fun cs u z => ?_, fun w z => (by cases z)⟩
          obtain ⟨rfl, rfl⟩ := ok_inj z
          refine ⟨h', p', rfl, q', ⟨x', trivial⟩, c'⟩
        · rw [if_neg kk0]
          obtain ⟨f', rfl⟩ : ∃ f', f = f' + 1 := ⟨f - 1, by omega⟩
          have e1' : C.1.clss (f' + 1) t' = no (C.1.P t') := by
            show (if C.1.K t' ≠ 1 then no (C.1.P t') else _) = _
            rw [if_pos kk1]
          rw [e1', Pr.bind_no]
          obtain ⟨h2, e2, a2, c2⟩ := e7_take_no (N := N) (k := 0) q'.1.1 kk0
          refine PL9.err (h' := h2) ?_ (q'.er a2 c2 m7_25 m7_17) ((c'.mono (fun a k z => kA_e z)).trans (c2.mono (fun a k z => m7_eM z)))
          rw [e2, Option.bind_some, g_46_11 a2.sg, Option.bind_some, a2.2.2.2.2.1]
    by_cases k22 : C.1.K (t + 1) ≠ 22
    · rw [if_pos k22]
      obtain ⟨x, h2, e2, a2, c2⟩ := e7_takeName_no (N := N) a1 k22
      rw [e2, Option.bind_some, Pr.bind_no]
      dsimp only
      rw [g_46_9 a2.sg, Option.bind_some, a2.kind, if_neg (by decide)]
      exact er65 a2 (c1.trans c2)
    rw [if_neg k22]
    have k22 := Decidable.not_not.mp k22
    obtain ⟨h2, e2, a2, c2⟩ := e7_takeName (N := N) a1 k22
    have a2 : At7 C 30 (t + 2) 0 c p (-1) h2 := a2
    have m2 : C.1.P (t + 1) < C.1.P (t + 2) := C.1.mono (t + 1) (by rw [k22]; decide)
    have c12 := c1.trans c2
    have q2 : At8 C 30 (t + 2) c m p0 0 p h2 := q.1.mv a2 c12 m7_25 m7_17 (by omega)
    have r17 : rd h2 17 7 = Int32.ofNat (5 + n) := by rw [c12.2.2.1 _ _ m7_17]; exact q.2.1
    have h8 := q.2.2
    rw [e2, Option.bind_some]
    dsimp only
    rw [g_46_9 a2.sg, Option.bind_some, a2.kind]
    by_cases k58 : C.1.K (t + 1 + 1) = 58
    · have k58' : C.1.K (t + 2) = 58 := k58
      rw [if_pos k58', if_pos k58]
      obtain ⟨h3, e3, a3, c3⟩ := e7_advance (N := N) a2 (a2.lt k58' (by decide) (by decide))
      have a3 : At7 C 30 (t + 3) 0 c p (-1) h3 := a3
      have m3 : C.1.P (t + 2) < C.1.P (t + 3) := C.1.mono (t + 2) (by rw [k58']; decide)
      rw [e3, Option.bind_some]
      by_cases k22b : C.1.K (t + 1 + 2) ≠ 22
      · rw [if_pos k22b]
        obtain ⟨x, h4, e4, a4, c4⟩ := e7_takeName_no (N := N) a3 k22b
        rw [e4, Option.bind_some, Pr.bind_no]
        exact er65 a4 ((c12.trans c3).trans c4)
      · rw [if_neg k22b]
        have k22b : C.1.K (t + 3) = 22 := Decidable.not_not.mp k22b
        obtain ⟨h4, e4, a4, c4⟩ := e7_takeName (N := N) a3 k22b
        have a4 : At7 C 30 (t + 4) 0 c p (-1) h4 := a4
        have m4 : C.1.P (t + 3) < C.1.P (t + 4) := C.1.mono (t + 3) (by rw [k22b]; decide)
        have c14 := (c12.trans c3).trans c4
        rw [e4, Option.bind_some]
        have pc := clsB_run (N := N) (t := t + 4) (w := t + 1) (pl := C.1.P (t + 1)) (o := some (t + 3)) (v5 := C.2.1 (t + 3)) (n := n) hC hN (q.1.mv a4 c14 m7_25 m7_17 (by omega)) (by rw [c14.2.2.1 _ _ m7_17]; exact q.2.1) (by omega) rfl
        refine PC9.to (by omega) pc (c14.mono (fun a k z => Or.inl (m7_n z))) (fun x t' h' p' hx q' x' c' => nxt x t' h' p' ?_ q' x' ((c14.mono (fun a k z => Or.inl (m7_n z))).trans c'))
        have := Tks.clsB_adv C.1 _ _ _ _ _ _ hx
        omega
    · have k58' : ¬ C.1.K (t + 2) = 58 := k58
      rw [if_neg k58', if_neg k58]
      have pc := clsB_run (N := N) (t := t + 2) (w := t + 1) (pl := C.1.P (t + 1)) (o := none) (v5 := -1) (n := n) hC hN q2 r17 (by omega) rfl
      refine PC9.to (by omega) pc (c12.mono (fun a k z => Or.inl (m7_n z))) (fun x t' h' p' hx q' x' c' => nxt x t' h' p' ?_ q' x' ((c12.mono (fun a k z => Or.inl (m7_n z))).trans c'))
      have := Tks.clsB_adv C.1 _ _ _ _ _ _ hx
      omega
/-- the built-in classes -/
def biC (h : pH) : Prop := ∀ k, k < 5 → rd h 18 k = Int32.ofNat (21 + k) ∧ rd h 20 k = -1 ∧ rd h 21 k = -1 ∧ rd h 22 k = 0 ∧ rd h 23 k = 0
/-- the reader has read the program cs -/
def CPar (C : Cx) (cs : List Cl) (h : pH) : Prop := WTb C h ∧ csC C h cs 5 0 0 0 ∧ rd h 17 7 = Int32.ofNat (5 + cs.length) ∧ rd h 25 11 = Int32.ofNat (csM cs) ∧ rd h 25 14 = Int32.ofNat (csP cs) ∧ rd h 38 7 = Int32.ofNat (csK cs) ∧ biC h ∧ 8 * cs.length ≤ 3000 ∧ 3 * csM cs ≤ 3000 ∧ 3 * csP cs ≤ 3000 ∧ csK cs ≤ 3000 ∧ C.1.K C.2.2 = 0
def rA7 : Nat → Nat → Prop := fun a k => eM a k
theorem begin_run {C : Cx} {N : Nat} {h : pH} (hN : 6 ≤ N) (q : WTb C h) : ∃ h', fX7_begin N 46 h = some h' ∧ At9 C 30 0 0 0 0 0 0 h' ∧ biC h' ∧ Chg eM h h' := by
  have hs := q.1
  have hK0 : rd h 9 0 = C.1.K 0 := (q.2.2.2.2.2.1 0 (Nat.zero_le _)).1
  have s1 := ((((hs.wr 46 8 0).wr 46 9 (C.1.K 0)).wr 46 10 0).wr 46 7 0).wr 46 11 (-1)
  have c1 : Chg (fun a k => a = 46 ∧ 7 ≤ k) h (wr (wr (wr (wr (wr h 46 8 0) 46 9 (C.1.K 0)) 46 10 0) 46 7 0) 46 11 (-1)) := ((((Chg.wr _ _ _ _ ⟨rfl, by omega⟩).trans (Chg.wr _ _ _ _ ⟨rfl, by omega⟩)).trans (Chg.wr _ _ _ _ ⟨rfl, by omega⟩)).trans (Chg.wr _ _ _ _ ⟨rfl, by omega⟩)).trans (Chg.wr _ _ _ _ ⟨rfl, by omega⟩)
  have f1 : rd (wr (wr (wr (wr (wr h 46 8 0) 46 9 (C.1.K 0)) 46 10 0) 46 7 0) 46 11 (-1)) 46 7 = 0 ∧ rd (wr (wr (wr (wr (wr h 46 8 0) 46 9 (C.1.K 0)) 46 10 0) 46 7 0) 46 11 (-1)) 46 8 = 0 ∧ rd (wr (wr (wr (wr (wr h 46 8 0) 46 9 (C.1.K 0)) 46 10 0) 46 7 0) 46 11 (-1)) 46 9 = C.1.K 0 ∧ rd (wr (wr (wr (wr (wr h 46 8 0) 46 9 (C.1.K 0)) 46 10 0) 46 7 0) 46 11 (-1)) 46 10 = 0 ∧ rd (wr (wr (wr (wr (wr h 46 8 0) 46 9 (C.1.K 0)) 46 10 0) 46 7 0) 46 11 (-1)) 46 11 = -1 := by
    simp only [w_46_7, w_46_8, w_46_9, w_46_10, w_46_11, hs, Sg_wr, Sg_wrJ, rd_wr_ne, rd_wrJ, rdJ_wr, Option.bind_some, if_true, if_false, i_add1, i_sub1, false_and, and_false, not_false_eq_true, Nat.reduceEqDiff, ne_eq, reduceIte, and_self]
  have e1 : ∀ k : pH → Option pH, ((putI h 46 7 8 0).bind fun h1 => (getR h1 46 7 0).bind fun t2 => (getR h1 t2 10 0).bind fun t3 => (ldI h1 t3 0).bind fun t4 => (putI h1 46 7 9 t4).bind fun h5 => (putI h5 46 7 10 0).bind fun h6 => (putI h6 46 7 7 0).bind fun h7 => (putI h7 46 7 11 (-1)).bind k) = k (wr (wr (wr (wr (wr h 46 8 0) 46 9 (C.1.K 0)) 46 10 0) 46 7 0) 46 11 (-1)) := by
    intro k
    have l9 : ldI (wr h 46 8 0) 9 0 = some (C.1.K 0) := by
      rw [show (0 : Int32) = Int32.ofNat 0 from rfl, L_9 (hs.wr _ _ _) (by decide), rd_wr_ne _ _ (by omega), hK0]
    simp only [o_46, R_46_0, R_46_1, R_46_2, R_46_3, R_46_4, R_46_5, R_46_6, g_46_7, p_46_7, g_46_8, p_46_8, g_46_9, p_46_9, g_46_10, p_46_10, g_46_11, p_46_11, o_8, R_8_0, R_8_1, R_8_2, g_8_3, p_8_3, R_8_4, g_8_5, p_8_5, R_8_6, R_8_7, R_8_8, R_8_9, g_8_10, p_8_10, hs, l9, Sg_wr, Sg_wrJ, rd_wr_ne, rd_wrJ, rdJ_wr, Option.bind_some, if_true, if_false, i_add1, i_sub1, false_and, and_false, not_false_eq_true, Nat.reduceEqDiff, ne_eq, reduceIte]
  generalize wr (wr (wr (wr (wr h 46 8 0) 46 9 (C.1.K 0)) 46 10 0) 46 7 0) 46 11 (-1) = h1 at *
  obtain ⟨f17, f18, f19, f110, f111⟩ := f1
  have t0 := s1.wr 17 7 0
  have g0 : Chg (fun a k => 17 ≤ a ∧ a ≤ 24) h1 (wr h1 17 7 0) := Chg.wr _ _ _ _ ⟨by omega, by omega⟩
  have up : ∀ {c : Nat} {x : pH} (v1 v2 v3 v4 : Int32), Chg (fun a k => 17 ≤ a ∧ a ≤ 24) x (clH x c v1 v2 v3 v4) := fun v1 v2 v3 v4 => (clH_chg _ _ v1 v2 v3 v4).mono (fun a k z => by unfold clA at z; omega)
  have b1 := clH_rd t0 0 21 0 (-1) 0
  have d1 := clH_chg (wr h1 17 7 0) 0 21 0 (-1) 0
  have t1 := d1.sg t0
  have b2 := clH_rd t1 1 22 0 (-1) 0
  have d2 := clH_chg (clH (wr h1 17 7 0) 0 21 0 (-1) 0) 1 22 0 (-1) 0
  have t2 := d2.sg t1
  have b3 := clH_rd t2 2 23 0 (-1) 0
  have d3 := clH_chg (clH (clH (wr h1 17 7 0) 0 21 0 (-1) 0) 1 22 0 (-1) 0) 2 23 0 (-1) 0
  have t3 := d3.sg t2
  have b4 := clH_rd t3 3 24 0 (-1) 0
  have d4 := clH_chg (clH (clH (clH (wr h1 17 7 0) 0 21 0 (-1) 0) 1 22 0 (-1) 0) 2 23 0 (-1) 0) 3 24 0 (-1) 0
  have t4 := d4.sg t3
  have b5 := clH_rd t4 4 25 0 (-1) 0
  have d5 := clH_chg (clH (clH (clH (clH (wr h1 17 7 0) 0 21 0 (-1) 0) 1 22 0 (-1) 0) 2 23 0 (-1) 0) 3 24 0 (-1) 0) 4 25 0 (-1) 0
  have t5 := d5.sg t4
  have c2 : Chg (fun a k => 17 ≤ a ∧ a ≤ 24) h1 (clH (clH (clH (clH (clH (wr h1 17 7 0) 0 21 0 (-1) 0) 1 22 0 (-1) 0) 2 23 0 (-1) 0) 3 24 0 (-1) 0) 4 25 0 (-1) 0) := (((((g0.trans (up _ _ _ _)).trans (up _ _ _ _)).trans (up _ _ _ _)).trans (up _ _ _ _)).trans (up _ _ _ _))
  have ec := e1_clear (N := N) hN s1
  have bi : biC (clH (clH (clH (clH (clH (wr h1 17 7 0) 0 21 0 (-1) 0) 1 22 0 (-1) 0) 2 23 0 (-1) 0) 3 24 0 (-1) 0) 4 25 0 (-1) 0) := by
    intro k hk
    rcases k with _ | _ | _ | _ | _ | k
    · refine ⟨?_, ?_, ?_, ?_, ?_⟩ <;> rw [d5.2.2.1 _ _ (by unfold clA; omega), d4.2.2.1 _ _ (by unfold clA; omega), d3.2.2.1 _ _ (by unfold clA; omega), d2.2.2.1 _ _ (by unfold clA; omega)]
      · exact b1.1
      · exact b1.2.2.1
      · exact b1.2.2.2.1
      · exact b1.2.2.2.2.1
      · exact b1.2.2.2.2.2.1
    · refine ⟨?_, ?_, ?_, ?_, ?_⟩ <;> rw [d5.2.2.1 _ _ (by unfold clA; omega), d4.2.2.1 _ _ (by unfold clA; omega), d3.2.2.1 _ _ (by unfold clA; omega)]
      · exact b2.1
      · exact b2.2.2.1
      · exact b2.2.2.2.1
      · exact b2.2.2.2.2.1
      · exact b2.2.2.2.2.2.1
    · refine ⟨?_, ?_, ?_, ?_, ?_⟩ <;> rw [d5.2.2.1 _ _ (by unfold clA; omega), d4.2.2.1 _ _ (by unfold clA; omega)]
      · exact b3.1
      · exact b3.2.2.1
      · exact b3.2.2.2.1
      · exact b3.2.2.2.2.1
      · exact b3.2.2.2.2.2.1
    · refine ⟨?_, ?_, ?_, ?_, ?_⟩ <;> rw [d5.2.2.1 _ _ (by unfold clA; omega)]
      · exact b4.1
      · exact b4.2.2.1
      · exact b4.2.2.2.1
      · exact b4.2.2.2.2.1
      · exact b4.2.2.2.2.2.1
    · exact ⟨b5.1, b5.2.2.1, b5.2.2.2.1, b5.2.2.2.2.1, b5.2.2.2.2.2.1⟩
    · omega
  have r17 := b5.2.2.2.2.2.2
  generalize clH (clH (clH (clH (clH (wr h1 17 7 0) 0 21 0 (-1) 0) 1 22 0 (-1) 0) 2 23 0 (-1) 0) 3 24 0 (-1) 0) 4 25 0 (-1) 0 = h2 at *
  have c3 : Chg (fun a k => a = 25 ∨ a = 38) h2 (wr (wr (wr (wr (wr h2 25 11 0) 25 14 0) 38 7 0) 38 8 0) 38 9 (-1)) := ((((Chg.wr _ _ _ _ (Or.inl rfl)).trans (Chg.wr _ _ _ _ (Or.inl rfl))).trans (Chg.wr _ _ _ _ (Or.inr rfl))).trans (Chg.wr _ _ _ _ (Or.inr rfl))).trans (Chg.wr _ _ _ _ (Or.inr rfl))
  have f3 : rd (wr (wr (wr (wr (wr h2 25 11 0) 25 14 0) 38 7 0) 38 8 0) 38 9 (-1)) 25 11 = 0 ∧ rd (wr (wr (wr (wr (wr h2 25 11 0) 25 14 0) 38 7 0) 38 8 0) 38 9 (-1)) 25 14 = 0 ∧ rd (wr (wr (wr (wr (wr h2 25 11 0) 25 14 0) 38 7 0) 38 8 0) 38 9 (-1)) 38 7 = 0 ∧ rd (wr (wr (wr (wr (wr h2 25 11 0) 25 14 0) 38 7 0) 38 8 0) 38 9 (-1)) 38 8 = 0 ∧ rd (wr (wr (wr (wr (wr h2 25 11 0) 25 14 0) 38 7 0) 38 8 0) 38 9 (-1)) 38 9 = -1 := by
    simp only [w_25_11, w_25_14, w_38_7, w_38_8, w_38_9, t5, Sg_wr, Sg_wrJ, rd_wr_ne, rd_wrJ, rdJ_wr, Option.bind_some, if_true, if_false, i_add1, i_sub1, false_and, and_false, not_false_eq_true, Nat.reduceEqDiff, ne_eq, reduceIte, and_self]
  have e3 : fX7_begin N 46 h = some (wr (wr (wr (wr (wr h2 25 11 0) 25 14 0) 38 7 0) 38 8 0) 38 9 (-1)) := by
    unfold fX7_begin
    rw [if_pos (o_46 hs), e1, R_46_1 s1, Option.bind_some, ec, Option.bind_some]
    unfold fX6_clear fX2_clear
    simp only [o_46, R_46_0, R_46_1, R_46_2, R_46_3, R_46_4, R_46_5, R_46_6, g_46_7, p_46_7, g_46_8, p_46_8, g_46_9, p_46_9, g_46_10, p_46_10, g_46_11, p_46_11, o_25, R_25_0, R_25_1, R_25_2, R_25_3, R_25_4, R_25_5, R_25_6, R_25_7, R_25_8, R_25_9, R_25_10, g_25_11, p_25_11, R_25_12, R_25_13, g_25_14, p_25_14, o_38, R_38_0, R_38_1, R_38_2, R_38_3, R_38_4, R_38_5, R_38_6, g_38_7, p_38_7, g_38_8, p_38_8, g_38_9, p_38_9, t5, Sg_wr, Sg_wrJ, rd_wr_ne, rd_wrJ, rdJ_wr, Option.bind_some, if_true, if_false, i_add1, i_sub1, false_and, and_false, not_false_eq_true, Nat.reduceEqDiff, ne_eq, reduceIte]
  refine ⟨_, e3, ?_, ?_, ((c1.mono (fun a k z => Or.inl (Or.inl z))).trans (c2.mono (fun a k z => Or.inr (by omega)))).trans (c3.mono (fun a k z => by omega))⟩
  · have c123 : Chg (fun a k => (a = 46 ∧ 7 ≤ k) ∨ (17 ≤ a ∧ a ≤ 25) ∨ a = 38) h _ := ((c1.mono (fun a k z => Or.inl z)).trans (c2.mono (fun a k z => Or.inr (Or.inl (by omega))))).trans (c3.mono (fun a k z => Or.inr (by omega)))
    have k46 : ∀ k, rd (wr (wr (wr (wr (wr h2 25 11 0) 25 14 0) 38 7 0) 38 8 0) 38 9 (-1)) 46 k = rd h1 46 k := fun k => by rw [c3.2.2.1 _ _ (by omega), c2.2.2.1 _ _ (by omega)]
    refine ⟨⟨⟨q.chg c123 (fun a k ha => by omega), Nat.zero_le _, Nat.le_refl _, by omega, Nat.zero_le _, by rw [k46, f17]; rfl, by rw [k46, f18]; rfl, by rw [k46, f19], by rw [k46, f110]; rfl, by rw [k46, f111], f3.2.2.1, f3.2.2.2.1, f3.2.2.2.2, fun i hi => by omega⟩, f3.1, f3.2.1, Nat.zero_le _, Nat.zero_le _, 5, by omega, ?_⟩, ?_, Nat.zero_le _⟩
    · rw [c3.2.2.1 _ _ (by omega)]; exact r17
    · rw [c3.2.2.1 _ _ (by omega)]; exact r17
  · intro k hk
    rw [c3.2.2.1 _ _ (by omega), c3.2.2.1 _ _ (by omega), c3.2.2.1 _ _ (by omega), c3.2.2.1 _ _ (by omega), c3.2.2.1 _ _ (by omega)]
    exact bi k hk
theorem biC.chg {h h' : pH} (q : biC h) (g : ∀ a k, 18 ≤ a → a ≤ 23 → k < 5 → rd h' a k = rd h a k) : biC h' := by
  intro k hk
  rw [g 18 k (by omega) (by omega) hk, g 20 k (by omega) (by omega) hk, g 21 k (by omega) (by omega) hk, g 22 k (by omega) (by omega) hk, g 23 k (by omega) (by omega) hk]
  exact q k hk
theorem Tks.clss_end {S : Tks} : ∀ (f t : Nat) (cs : List Cl) (t' : Nat), S.clss f t = ok cs t' → S.K t' = 0
  | 0, t, cs, t', h => (no_ok h).elim
  | f + 1, t, cs, t', h => by
    unfold Tks.clss at h
    split at h
    · exact (no_ok h).elim
    · obtain ⟨c, t1, h1, h2⟩ := Pr.bind_eq_ok h
      split at h2
      · rename_i h0
        obtain ⟨rfl, rfl⟩ := ok_inj h2
        exact h0
      · obtain ⟨l, t2, h3, h4⟩ := Pr.bind_eq_ok h2
        obtain ⟨rfl, rfl⟩ := ok_inj h4
        exact Tks.clss_end f _ _ _ h3
/-- the class reads as the grammar says -/
theorem e7_read {C : Cx} {N : Nat} {h : pH} (hC : NmC C) (hK : KlC C) (hN : 3200 < N) (q : WTb C h) : (∀ cs t', C.1.prog = ok cs t' → ∃ h', fX7_read N 46 h = some (-1, h') ∧ CPar C cs h' ∧ Chg eM h h') ∧ (∀ w, C.1.prog = no w → ∃ h', fX7_read N 46 h = some (Int32.ofNat w, h') ∧ w ≤ 3000 ∧ Chg eM h h') := by
  obtain ⟨h1, e1, q1, b1, c1⟩ := begin_run (N := N) (by omega) q
  have pl := clss_run (N := N) hC hK hN (C.1.E + 1) N 0 0 0 0 0 0 0 h1 (by omega) (by have := q.2.1; omega) (Nat.le_refl _) q1
  have er : fX7_read N 46 h = fX7_read_8 N N 46 1 (Int32.ofNat 0) h1 := by
    unfold fX7_read
    rw [if_pos (o_46 q.1), e1, Option.bind_some]
    rfl
  rw [er]
  refine ⟨fun cs t' z => ?_, fun w z => ?_⟩
  · obtain ⟨h2, p2, e2, q2, x2, c2⟩ := pl.1 cs t' z
    have hP := q2.1.1.1.2.2.1 t'
    obtain ⟨⟨z1, z2, z3, z4, z5, z6⟩, z7, z8⟩ := id q2
    have z9 := z1.cap
    rw [Nat.zero_add] at z2 z3 z4 z5 z7 z8 z9
    refine ⟨h2, e2, ⟨z1.1, x2, z7, z2, z3, ?_, b1.chg (fun a k y1 y2 y3 => c2.2.2.1 _ _ (by unfold kA nA sA xA; omega)), by omega, by omega, by omega, by omega, ?_⟩, c1.trans (c2.mono (fun a k z => kA_e z))⟩
    · have := z1.2.2.2.2.2.2.2.2.2.2.1
      rw [Nat.zero_add] at this
      exact this
    · have k0 := Tks.clss_end _ _ _ _ z
      have ht := z1.2.1
      have htE : t' = C.2.2 := by
        rcases Nat.lt_or_ge t' C.2.2 with y | y
        · exact absurd k0 (z1.1.2.2.2.1 t' y).1
        · omega
      rw [← htE]
      exact k0
  · obtain ⟨h2, e2, hw, c2⟩ := pl.2 w z
    exact ⟨h2, e2, hw, c1.trans c2⟩
